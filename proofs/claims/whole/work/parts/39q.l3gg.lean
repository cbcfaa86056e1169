/-! LEVEL 3, gg: below, above -/
def isBl (g : Sg) (m : Nat) (x up : Int) (c : Nat) (b : Int) : Prop := (b = -1 ∧ ∀ s, s < c → m.testBit s = true → 0 < gA g s x up) ∨ ∃ y : Nat, b = (y : Int) ∧ y < c ∧ m.testBit y = true ∧ gA g y x up ≤ 0 ∧ ∀ s, s < c → m.testBit s = true → gA g s x up ≤ 0 → s = y ∨ hib g y s x = true
def isAb (g : Sg) (m : Nat) (x up : Int) (c : Nat) (b : Int) : Prop := (b = -1 ∧ ∀ s, s < c → m.testBit s = true → gA g s x up ≤ 0) ∨ ∃ y : Nat, b = (y : Int) ∧ y < c ∧ m.testBit y = true ∧ 0 < gA g y x up ∧ ∀ s, s < c → m.testBit s = true → 0 < gA g s x up → s = y ∨ hib g s y x = true
theorem isBl_uni {g : Sg} {m : Nat} {x up : Int} {c : Nat} {b b' : Int} (h : isBl g m x up c b) (h' : isBl g m x up c b') : b = b' := by
  rcases h with ⟨rfl, h⟩ | ⟨y, rfl, y1, y2, y3, y4⟩ <;> rcases h' with ⟨rfl, h'⟩ | ⟨z, rfl, z1, z2, z3, z4⟩
  · rfl
  · have := h z z1 z2; omega
  · have := h' y y1 y2; omega
  · rcases y4 z z1 z2 z3 with e | e
    · rw [e]
    · rcases z4 y y1 y2 y3 with e2 | e2
      · rw [e2]
      · exact absurd (hib_iff.mp e2) (hi_asym (hib_iff.mp e))
theorem isAb_uni {g : Sg} {m : Nat} {x up : Int} {c : Nat} {b b' : Int} (h : isAb g m x up c b) (h' : isAb g m x up c b') : b = b' := by
  rcases h with ⟨rfl, h⟩ | ⟨y, rfl, y1, y2, y3, y4⟩ <;> rcases h' with ⟨rfl, h'⟩ | ⟨z, rfl, z1, z2, z3, z4⟩
  · rfl
  · have := h z z1 z2; omega
  · have := h' y y1 y2; omega
  · rcases y4 z z1 z2 z3 with e | e
    · rw [e]
    · rcases z4 y y1 y2 y3 with e2 | e2
      · rw [e2]
      · exact absurd (hib_iff.mp e2) (hi_asym (hib_iff.mp e))
section BA
variable {g : Sg} {n m : Nat} {x up : Int}
theorem bl_skip {c : Nat} {b : Int} (h : isBl g m x up c b) (hc : m.testBit c = true → 0 < gA g c x up) : isBl g m x up (c + 1) b := by
  rcases h with ⟨rfl, h⟩ | ⟨y, rfl, y1, y2, y3, y4⟩
  · refine Or.inl ⟨rfl, fun s hs hm => ?_⟩
    by_cases e : s = c
    · rw [e] at hm ⊢; exact hc hm
    · exact h s (by omega) hm
  · refine Or.inr ⟨y, rfl, by omega, y2, y3, fun s hs hm hg => ?_⟩
    by_cases e : s = c
    · rw [e] at hm hg; have := hc hm; omega
    · exact y4 s (by omega) hm hg
theorem bl_first {c : Nat} (h : isBl g m x up c (-1)) (hm : m.testBit c = true) (hg : gA g c x up ≤ 0) : isBl g m x up (c + 1) (c : Int) := by
  rcases h with ⟨_, h⟩ | ⟨y, e, _⟩
  · refine Or.inr ⟨c, rfl, by omega, hm, hg, fun s hs hms hgs => ?_⟩
    by_cases e : s = c
    · exact Or.inl e
    · have := h s (by omega) hms; omega
  · omega
theorem bl_step {c y : Nat} (hok : OkSeg g n) (ho : Over g n m x) (h : isBl g m x up c (y : Int)) (hm : m.testBit c = true) (hg : gA g c x up ≤ 0) : isBl g m x up (c + 1) (if hib g c y x = true then (c : Int) else (y : Int)) := by
  rcases h with ⟨e, _⟩ | ⟨y', e, y1, y2, y3, y4⟩
  · omega
  · have : y = y' := by omega
    subst this
    obtain ⟨c1, c2⟩ := ho.2 c hm
    obtain ⟨d1, d2⟩ := ho.2 y y2
    by_cases q : hib g c y x = true
    · rw [if_pos q]
      refine Or.inr ⟨c, rfl, by omega, hm, hg, fun s hs hms hgs => ?_⟩
      by_cases e : s = c
      · exact Or.inl e
      · right
        rcases y4 s (by omega) hms hgs with e2 | e2
        · rw [e2]; exact q
        · have hsn := (ho.2 s hms).1
          exact hib_iff.mpr (hi_trans (gW_pos (hok.2.1 c c1)).1 (gW_pos (hok.2.1 y d1)).1 (gW_pos (hok.2.1 s hsn)).1 (hib_iff.mp q) (hib_iff.mp e2))
    · rw [if_neg q]
      refine Or.inr ⟨y, rfl, by omega, y2, y3, fun s hs hms hgs => ?_⟩
      by_cases e : s = c
      · rw [e]
        exact Or.inr ((hib_tot hok c1 d1 (by omega) c2 d2).resolve_left q)
      · exact y4 s (by omega) hms hgs
theorem ab_skip {c : Nat} {b : Int} (h : isAb g m x up c b) (hc : m.testBit c = true → gA g c x up ≤ 0) : isAb g m x up (c + 1) b := by
  rcases h with ⟨rfl, h⟩ | ⟨y, rfl, y1, y2, y3, y4⟩
  · refine Or.inl ⟨rfl, fun s hs hm => ?_⟩
    by_cases e : s = c
    · rw [e] at hm ⊢; exact hc hm
    · exact h s (by omega) hm
  · refine Or.inr ⟨y, rfl, by omega, y2, y3, fun s hs hm hg => ?_⟩
    by_cases e : s = c
    · rw [e] at hm hg; have := hc hm; omega
    · exact y4 s (by omega) hm hg
theorem ab_first {c : Nat} (h : isAb g m x up c (-1)) (hm : m.testBit c = true) (hg : 0 < gA g c x up) : isAb g m x up (c + 1) (c : Int) := by
  rcases h with ⟨_, h⟩ | ⟨y, e, _⟩
  · refine Or.inr ⟨c, rfl, by omega, hm, hg, fun s hs hms hgs => ?_⟩
    by_cases e : s = c
    · exact Or.inl e
    · have := h s (by omega) hms; omega
  · omega
theorem ab_step {c y : Nat} (hok : OkSeg g n) (ho : Over g n m x) (h : isAb g m x up c (y : Int)) (hm : m.testBit c = true) (hg : 0 < gA g c x up) : isAb g m x up (c + 1) (if hib g y c x = true then (c : Int) else (y : Int)) := by
  rcases h with ⟨e, _⟩ | ⟨y', e, y1, y2, y3, y4⟩
  · omega
  · have : y = y' := by omega
    subst this
    obtain ⟨c1, c2⟩ := ho.2 c hm
    obtain ⟨d1, d2⟩ := ho.2 y y2
    by_cases q : hib g y c x = true
    · rw [if_pos q]
      refine Or.inr ⟨c, rfl, by omega, hm, hg, fun s hs hms hgs => ?_⟩
      by_cases e : s = c
      · exact Or.inl e
      · right
        rcases y4 s (by omega) hms hgs with e2 | e2
        · rw [e2]; exact q
        · have hsn := (ho.2 s hms).1
          exact hib_iff.mpr (hi_trans (gW_pos (hok.2.1 s hsn)).1 (gW_pos (hok.2.1 y d1)).1 (gW_pos (hok.2.1 c c1)).1 (hib_iff.mp e2) (hib_iff.mp q))
    · rw [if_neg q]
      refine Or.inr ⟨y, rfl, by omega, y2, y3, fun s hs hms hgs => ?_⟩
      by_cases e : s = c
      · rw [e]
        exact Or.inr ((hib_tot hok c1 d1 (by omega) c2 d2).resolve_right q)
      · exact y4 s (by omega) hms hgs
theorem bl_int {c : Nat} {b : Int} (h : isBl g m x up c b) : b = -1 ∨ ∃ y : Nat, b = (y : Int) ∧ y < c := by
  rcases h with ⟨e, _⟩ | ⟨y, e, h1, _⟩
  · exact Or.inl e
  · exact Or.inr ⟨y, e, h1⟩
theorem ab_int {c : Nat} {b : Int} (h : isAb g m x up c b) : b = -1 ∨ ∃ y : Nat, b = (y : Int) ∧ y < c := by
  rcases h with ⟨e, _⟩ | ⟨y, e, h1, _⟩
  · exact Or.inl e
  · exact Or.inr ⟨y, e, h1⟩
theorem rf_below {O : Smo} (hg : OkSeg (sgO O) n) (h39 : O 262 39 = (n : Int)) (ho : Over (sgO O) n m x) (hx : 0 ≤ x ∧ x ≤ 60) (hup : -9 ≤ up ∧ up ≤ 99) : Ret (f_X12_belowOf m x up O) (fun b => isBl (sgO O) m x up n b) := by
  have hn8 := hg.1
  unfold f_X12_belowOf
  refine Ret_bind (Ret_lp (fun c q => q.2 = (c : Int) ∧ isBl (sgO O) m x up c q.1) n (by omega) ⟨rfl, Or.inl ⟨rfl, fun s hs => by omega⟩⟩ (fun c q hc hI => ?_) (fun q hI => ?_) (Q := fun b => isBl (sgO O) m x up n b)) (fun r hr => Ret_some hr)
  · obtain ⟨b, z⟩ := q
    obtain ⟨rfl, hb⟩ := hI
    dsimp only [jn, jk] at *
    rw [if_pos (by rw [h39]; omega), has_n ho.1 (by omega), wr_id (by omega) (by omega)]
    by_cases cm : m.testBit c = true
    · rw [bt_1.mpr cm, if_neg (by decide), rf_far' hg hc hx hup]
      dsimp only [Option.bind_some]
      by_cases cg : 0 < gA (sgO O) c x up
      · rw [if_pos cg]
        exact Ret_some ⟨_, rfl, by simp, bl_skip hb (fun _ => cg)⟩
      · rw [if_neg cg]
        rcases bl_int hb with rfl | ⟨y, rfl, hy⟩
        · rw [if_pos (by decide)]
          exact Ret_some ⟨_, rfl, by simp, bl_first hb cm (by omega)⟩
        · rw [if_neg (by omega), rf_hi' hg hc (show y < n by omega) hx]
          dsimp only [Option.bind_some]
          have := bl_step hg ho hb cm (show gA (sgO O) c x up ≤ 0 by omega)
          by_cases q : hib (sgO O) c y x = true
          · rw [if_pos q] at this ⊢
            rw [if_neg (by decide)]
            exact Ret_some ⟨_, rfl, by simp, this⟩
          · rw [if_neg q] at this ⊢
            rw [if_pos rfl]
            exact Ret_some ⟨_, rfl, by simp, this⟩
    · rw [bt_0.mpr (by simpa using cm), if_pos rfl]
      exact Ret_some ⟨_, rfl, by simp, bl_skip hb (fun q => absurd q cm)⟩
  · obtain ⟨b, z⟩ := q
    obtain ⟨rfl, hb⟩ := hI
    dsimp only at *
    rw [if_neg (by rw [h39]; omega)]
    exact Ret_some ⟨_, rfl, hb⟩
theorem rf_above {O : Smo} (hg : OkSeg (sgO O) n) (h39 : O 262 39 = (n : Int)) (ho : Over (sgO O) n m x) (hx : 0 ≤ x ∧ x ≤ 60) (hup : -9 ≤ up ∧ up ≤ 99) : Ret (f_X12_aboveOf m x up O) (fun b => isAb (sgO O) m x up n b) := by
  have hn8 := hg.1
  unfold f_X12_aboveOf
  refine Ret_bind (Ret_lp (fun c q => q.2 = (c : Int) ∧ isAb (sgO O) m x up c q.1) n (by omega) ⟨rfl, Or.inl ⟨rfl, fun s hs => by omega⟩⟩ (fun c q hc hI => ?_) (fun q hI => ?_) (Q := fun b => isAb (sgO O) m x up n b)) (fun r hr => Ret_some hr)
  · obtain ⟨b, z⟩ := q
    obtain ⟨rfl, hb⟩ := hI
    dsimp only [jn, jk] at *
    rw [if_pos (by rw [h39]; omega), has_n ho.1 (by omega), wr_id (by omega) (by omega)]
    by_cases cm : m.testBit c = true
    · rw [bt_1.mpr cm, if_neg (by decide), rf_far' hg hc hx hup]
      dsimp only [Option.bind_some]
      by_cases cg : 0 < gA (sgO O) c x up
      · rw [if_pos cg]
        rcases ab_int hb with rfl | ⟨y, rfl, hy⟩
        · rw [if_pos (by decide)]
          exact Ret_some ⟨_, rfl, by simp, ab_first hb cm cg⟩
        · rw [if_neg (by omega), rf_hi' hg (show y < n by omega) hc hx]
          dsimp only [Option.bind_some]
          have := ab_step hg ho hb cm cg
          by_cases q : hib (sgO O) y c x = true
          · rw [if_pos q] at this ⊢
            rw [if_neg (by decide)]
            exact Ret_some ⟨_, rfl, by simp, this⟩
          · rw [if_neg q] at this ⊢
            rw [if_pos rfl]
            exact Ret_some ⟨_, rfl, by simp, this⟩
      · rw [if_neg cg]
        exact Ret_some ⟨_, rfl, by simp, ab_skip hb (fun _ => by omega)⟩
    · rw [bt_0.mpr (by simpa using cm), if_pos rfl]
      exact Ret_some ⟨_, rfl, by simp, ab_skip hb (fun q => absurd q cm)⟩
  · obtain ⟨b, z⟩ := q
    obtain ⟨rfl, hb⟩ := hI
    dsimp only at *
    rw [if_neg (by rw [h39]; omega)]
    exact Ret_some ⟨_, rfl, hb⟩
end BA
section PTS
variable {S S' : Sst} {O O' : Smo} {n ne slots v tp bs : Nat} {lo : Nat → Nat}
theorem bl_V (h : Core S O n ne slots lo v tp bs) {x up : Int} {u : Nat} (hu : u ≤ v) (ho : Over (sgO O) n (mA (O 282) u) x) : isBl (sgO O) (mA (O 282) u) x up n (blV O u x up) ∧ isAb (sgO O) (mA (O 282) u) x up n (abV O u x up) := by
  obtain ⟨c1, c2, c3, c4, c5⟩ := c_row h hu
  have hv := (c_ver h hu).1
  have hsp := q_split (up := up) h hu ho
  have hs := srtR_at h.1.2.1 hv.1 ho
  have hcl := List.countP_le_length (p := gAb O x up) (l := rowV O u)
  have hF : fuV O u x up ≤ (rowV O u).length := hcl
  have hix : ∀ s, (mA (O 282) u).testBit s = true → ∃ i : Nat, (rowV O u)[i]? = some s := fun s hs => List.mem_iff_getElem?.mp ((c3 s).mpr hs)
  have hord : ∀ i j s t : Nat, i < j → (rowV O u)[i]? = some s → (rowV O u)[j]? = some t → hib (sgO O) t s x = true := fun i j s t hij hi hj => by
    obtain ⟨i1, i2⟩ := List.getElem?_eq_some_iff.mp hi
    obtain ⟨j1, j2⟩ := List.getElem?_eq_some_iff.mp hj
    have := List.pairwise_iff_getElem.mp hs i j i1 j1 hij
    have e1 : (rowF (sgO O) (mA (O 282) u) (O 282 u))[i]'i1 = s := i2
    have e2 : (rowF (sgO O) (mA (O 282) u) (O 282 u))[j]'j1 = t := j2
    dsimp only at this
    rw [e1, e2] at this
    exact this
  constructor
  · unfold blV
    by_cases q : (rowV O u).length - fuV O u x up = 0
    · refine Or.inl ⟨lat_len (Or.inl (by omega)), fun s _ hm => ?_⟩
      obtain ⟨i, hi⟩ := hix s hm
      exact (hsp i s hi).mpr (by omega)
    · obtain ⟨y, hy⟩ : ∃ y, (rowV O u)[(rowV O u).length - fuV O u x up - 1]? = some y := ⟨(rowV O u)[(rowV O u).length - fuV O u x up - 1]'(by omega), by simp [show (rowV O u).length - fuV O u x up - 1 < (rowV O u).length by omega]⟩
      have hl := lat_natL hy
      rw [show (((rowV O u).length - fuV O u x up - 1 : Nat) : Int) = ((rowV O u).length : Int) - fuV O u x up - 1 by omega] at hl
      have hyr := List.mem_of_getElem? hy
      refine Or.inr ⟨y, hl, c4 y hyr, (c3 y).mp hyr, ?_, fun s _ hm hgs => ?_⟩
      · have := hsp _ y hy; omega
      · obtain ⟨i, hi⟩ := hix s hm
        have hi2 := hsp i s hi
        rcases Nat.lt_trichotomy i ((rowV O u).length - fuV O u x up - 1) with c | c | c
        · exact Or.inr (hord _ _ _ _ c hi hy)
        · rw [c, hy] at hi
          exact Or.inl (Option.some.inj hi).symm
        · omega
  · unfold abV
    by_cases q : fuV O u x up = 0
    · refine Or.inl ⟨lat_len (Or.inr (by rw [natL_len]; omega)), fun s _ hm => ?_⟩
      obtain ⟨i, hi⟩ := hix s hm
      have h1 := hsp i s hi
      have h2 := (List.getElem?_eq_some_iff.mp hi).1
      omega
    · obtain ⟨y, hy⟩ : ∃ y, (rowV O u)[(rowV O u).length - fuV O u x up]? = some y := ⟨(rowV O u)[(rowV O u).length - fuV O u x up]'(by omega), by simp [show (rowV O u).length - fuV O u x up < (rowV O u).length by omega]⟩
      have hl := lat_natL hy
      rw [show (((rowV O u).length - fuV O u x up : Nat) : Int) = ((rowV O u).length : Int) - fuV O u x up by omega] at hl
      have hyr := List.mem_of_getElem? hy
      refine Or.inr ⟨y, hl, c4 y hyr, (c3 y).mp hyr, (hsp _ y hy).mpr (Nat.le_refl _), fun s _ hm hgs => ?_⟩
      obtain ⟨i, hi⟩ := hix s hm
      have hi2 := (hsp i s hi).mp hgs
      rcases Nat.lt_trichotomy i ((rowV O u).length - fuV O u x up) with c | c | c
      · omega
      · rw [c, hy] at hi
        exact Or.inl (Option.some.inj hi).symm
      · exact Or.inr (hord _ _ _ _ c hy hi)
theorem q_region (h : Core S O n ne slots lo v tp bs) {x up : Int} {u : Nat} (hu : u ≤ v) (hs : f_X12_stampAt x O = some (u : Int)) (ho : Over (sgO O) n (mA (O 282) u) x) (hx : 0 ≤ x ∧ x ≤ 60) (hup : -9 ≤ up ∧ up ≤ 99) : f_X12_regionOf x up O = some (blV O u x up) ∧ f_X12_overOf x up O = some (abV O u x up) := by
  obtain ⟨hb, ha⟩ := bl_V (up := up) h hu ho
  obtain ⟨b, e1, b1⟩ := rf_below (up := up) h.1.2.1 h.1.2.2.2.2.1 ho hx hup
  obtain ⟨a, e2, a1⟩ := rf_above (up := up) h.1.2.1 h.1.2.2.2.2.1 ho hx hup
  unfold f_X12_regionOf f_X12_overOf
  rw [hs]
  dsimp only [Option.bind_some]
  rw [(q_set h.2 hu).2.1]
  dsimp only [Option.bind_some]
  rw [e1, e2, isBl_uni b1 hb, isAb_uni a1 ha]
  exact ⟨rfl, rfl⟩
theorem cl_found {x up : Int} {u : Nat} (hT : clTree S (O 280) (rowV O u)) (hf : S.2 242 1 = (fuV O u x up : Int)) (hl : (rowV O u).length ≤ 8) : f_X8_foundBelow S = blV O u x up ∧ f_X8_foundAbove S = abV O u x up := by
  have hcl := List.countP_le_length (p := gAb O x up) (l := rowV O u)
  have hF : fuV O u x up ≤ (rowV O u).length := hcl
  have hsz : f_X6_size 60 S = ((rowV O u).length : Int) := by
    unfold f_X6_size
    rw [hT.1, natL_len]
  unfold f_X8_foundBelow f_X8_foundAbove blV abV
  rw [hsz, hf, wr_id (z := ((rowV O u).length : Int) - (fuV O u x up : Int)) (by omega) (by omega), wr_id (by omega) (by omega)]
  unfold f_X6_at
  rw [hT.1]
  exact ⟨rfl, rfl⟩
def Op1 (S : Sst) (O : Smo) (c : Option (Int × Sst)) (r : Option Int) : Prop := ∃ (a : Int) (S' : Sst), c = some (a, S') ∧ r = some a ∧ Inv S' O
theorem op_below {S : Sst} {O : Smo} (h : Inv S O) (x up : Int) : Op1 S O (f_X11_below x up S) (f_X12_below x up O) := by
  have hI := h
  obtain ⟨n, ne, slots, lo, v, tp, bs, h1, h2, h3, h4, h5, h6, h7, h8⟩ := h
  have hC : Core S O n ne slots lo v tp bs := ⟨h4, h5⟩
  unfold f_X11_below f_X12_below
  rcases q_find hC x up with ⟨S', e1, rfl, e2⟩ | ⟨S', u, e1, e2, f, hu, hs, hT, hf, ho, hx, hup, _⟩
  · rw [e1, e2]
    exact ⟨-2, _, rfl, rfl, hI⟩
  · rw [e1, e2]
    dsimp only [Option.bind_some]
    rw [if_neg (by decide), if_neg (by decide), (q_region hC hu hs ho hx hup).1, (cl_found hT hf (c_row hC hu).2.1).1]
    exact ⟨_, _, rfl, rfl, Inv_fr hI f (FrR_refl O)⟩
theorem op_above {S : Sst} {O : Smo} (h : Inv S O) (x up : Int) : Op1 S O (f_X11_above x up S) (f_X12_above x up O) := by
  have hI := h
  obtain ⟨n, ne, slots, lo, v, tp, bs, h1, h2, h3, h4, h5, h6, h7, h8⟩ := h
  have hC : Core S O n ne slots lo v tp bs := ⟨h4, h5⟩
  unfold f_X11_above f_X12_above
  rcases q_find hC x up with ⟨S', e1, rfl, e2⟩ | ⟨S', u, e1, e2, f, hu, hs, hT, hf, ho, hx, hup, _⟩
  · rw [e1, e2]
    exact ⟨-2, _, rfl, rfl, hI⟩
  · rw [e1, e2]
    dsimp only [Option.bind_some]
    rw [if_neg (by decide), if_neg (by decide), (q_region hC hu hs ho hx hup).2, (cl_found hT hf (c_row hC hu).2.1).2]
    exact ⟨_, _, rfl, rfl, Inv_fr hI f (FrR_refl O)⟩
theorem cl_ahead (h : Core S O n ne slots lo v tp bs) (hk : ∀ k, k < 60 → S'.1 k = S.1 k) {s : Nat} (hs : s < n) {x up : Int} (hx : 0 ≤ x ∧ x ≤ 60) (hup : -9 ≤ up ∧ up ≤ 99) : f_X4_aheadOf 29 s x up S' = gA (sgO O) s x up := by
  refine pl_ahead (g := sgO O) (n := n) ⟨?_, ?_, ?_, ?_, ?_, ?_⟩ hs (h.1.2.1.2.1 s hs) hx hup
  · rw [hk _ (by decide)]; exact h.1.1.1.1
  · rw [hk _ (by decide)]; exact h.1.1.1.2.1
  · rw [hk _ (by decide)]; exact h.1.1.1.2.2.1
  · rw [hk _ (by decide)]; exact h.1.1.1.2.2.2.1
  · rw [hk _ (by decide)]; exact h.1.1.1.2.2.2.2.1
  · rw [hk _ (by decide)]; exact h.1.1.1.2.2.2.2.2
theorem op_on {S : Sst} {O : Smo} (h : Inv S O) (x up : Int) : Op1 S O (f_X11_on x up S) (f_X12_on x up O) := by
  have hI := h
  obtain ⟨n, ne, slots, lo, v, tp, bs, h1, h2, h3, h4, h5, h6, h7, h8⟩ := h
  have hC : Core S O n ne slots lo v tp bs := ⟨h4, h5⟩
  unfold f_X11_on f_X12_on
  dsimp only [jn]
  rcases q_find hC x up with ⟨S', e1, rfl, e2⟩ | ⟨S', u, e1, e2, f, hu, hs, hT, hf, ho, hx, hup, hk⟩
  · rw [e1, e2]
    exact ⟨-2, _, rfl, rfl, hI⟩
  · rw [e1, e2]
    dsimp only [Option.bind_some]
    rw [if_neg (show ¬ (1 : Int) = 0 by decide), if_neg (show ¬ (1 : Int) = 0 by decide), (q_region hC hu hs ho hx hup).1, (cl_found hT hf (c_row hC hu).2.1).1]
    dsimp only [Option.bind_some]
    have hb := (bl_V (up := up) hC hu ho).1
    rcases bl_int hb with e | ⟨y, e, hy⟩
    · rw [e, if_pos (Or.inl rfl), if_pos (by decide)]
      exact ⟨0, _, rfl, rfl, Inv_fr hI f (FrR_refl O)⟩
    · rw [e, cl_ahead hC hk hy hx hup, if_neg (c := ((y : Nat) : Int) < 0) (by omega), rf_far' h4.2.1 hy hx hup]
      dsimp only [Option.bind_some]
      by_cases q : gA (sgO O) y x up = 0
      · rw [if_neg (by omega), if_pos q]
        exact ⟨1, _, rfl, rfl, Inv_fr hI f (FrR_refl O)⟩
      · rw [if_pos (Or.inr q), if_neg q]
        exact ⟨0, _, rfl, rfl, Inv_fr hI f (FrR_refl O)⟩
theorem countP_sum {p : Nat → Bool} : ∀ (r l : List Nat), r.Perm l → r.countP p = l.countP p := fun r l h => h.countP_eq p
/-- how many of a version are farther up -/
theorem q_crossed (h : Core S O n ne slots lo v tp bs) {x up : Int} {u : Nat} (hu : u ≤ v) (hs : f_X12_stampAt x O = some (u : Int)) (hx : 0 ≤ x ∧ x ≤ 60) (hup : -9 ≤ up ∧ up ≤ 99) : f_X12_crossedAt x up O = some (fuV O u x up : Int) := by
  have hv := (c_ver h hu).1
  have hn8 := h.1.2.1.1
  obtain ⟨m1, m2, m3⟩ := q_set h.2 hu
  have hperm := (rowF_ok h.1.2.1 hv.1).1
  have hfil := filt_n hn8 (fun k hk => (hv.1.2 k hk).1)
  have hF : fuV O u x up = ((List.range n).filter (fun k => (mA (O 282) u).testBit k)).countP (gAb O x up) := by
    unfold fuV rowV
    rw [hperm.countP_eq, hfil]
  unfold f_X12_crossedAt
  rw [hs]
  dsimp only [Option.bind_some]
  rw [m2]
  dsimp only [Option.bind_some, jn]
  refine Ret_eq (Ret_bind (P := fun r => r = (fuV O u x up : Int)) (Ret_lp (fun c q => q = ((((List.range c).filter (fun k => (mA (O 282) u).testBit k)).countP (gAb O x up) : Int), (c : Int))) n (by omega) rfl (fun c q hc hI => ?_) (fun q hI => ?_)) (fun r hr => Ret_some hr))
  · subst hI
    have hle := List.countP_le_length (p := gAb O x up) (l := (List.range c).filter (fun k => (mA (O 282) u).testBit k))
    have hle2 := List.length_filter_le (fun k => (mA (O 282) u).testBit k) (List.range c)
    rw [List.length_range] at hle2
    dsimp only
    rw [if_pos (by rw [h.1.2.2.2.2.1]; omega), has_n m3 (by omega), wr_id (z := (c : Int) + 1) (by omega) (by omega), List.range_succ, List.filter_append, List.countP_append]
    by_cases cm : (mA (O 282) u).testBit c = true
    · rw [bt_1.mpr cm, if_neg (by decide), rf_far' h.1.2.1 hc hx hup]
      dsimp only [Option.bind_some]
      by_cases q : 0 < gA (sgO O) c x up
      · have hb : gAb O x up c = true := decide_eq_true q
        rw [if_pos q]
        dsimp only [Option.bind_some]
        rw [show f_X12_truth 1 = 1 from rfl, wr_id (by omega) (by omega)]
        refine Ret_some ⟨_, rfl, ?_⟩
        simp [cm, hb]
      · have hb : ¬ gAb O x up c = true := fun e => q (of_decide_eq_true e)
        rw [if_neg q]
        dsimp only [Option.bind_some]
        rw [show f_X12_truth 0 = 0 from rfl, wr_id (by omega) (by omega)]
        refine Ret_some ⟨_, rfl, ?_⟩
        simp [cm, hb]
    · rw [bt_0.mpr (by simpa using cm), if_pos rfl]
      dsimp only [Option.bind_some]
      rw [show f_X12_truth 0 = 0 from rfl, wr_id (by omega) (by omega)]
      refine Ret_some ⟨_, rfl, ?_⟩
      simp [cm]
  · subst hI
    dsimp only
    rw [if_neg (by rw [h.1.2.2.2.2.1]; omega)]
    exact Ret_some ⟨_, rfl, by rw [hF]⟩
theorem op_crossed {S : Sst} {O : Smo} (h : Inv S O) (x up : Int) : Op1 S O (f_X11_crossed x up S) (f_X12_crossed x up O) := by
  have hI := h
  obtain ⟨n, ne, slots, lo, v, tp, bs, h1, h2, h3, h4, h5, h6, h7, h8⟩ := h
  have hC : Core S O n ne slots lo v tp bs := ⟨h4, h5⟩
  unfold f_X11_crossed f_X12_crossed
  rcases q_find hC x up with ⟨S', e1, rfl, e2⟩ | ⟨S', u, e1, e2, f, hu, hs, hT, hf, ho, hx, hup, hk⟩
  · rw [e1, e2]
    exact ⟨-2, _, rfl, rfl, hI⟩
  · rw [e1, e2]
    dsimp only [Option.bind_some]
    rw [if_neg (by decide), if_neg (by decide), q_crossed hC hu hs hx hup, hf]
    exact ⟨_, _, rfl, rfl, Inv_fr hI f (FrR_refl O)⟩
theorem op_same {S : Sst} {O : Smo} (h : Inv S O) (x up x2 up2 : Int) : Op1 S O (f_X11_same x up x2 up2 S) (f_X12_same x up x2 up2 O) := by
  have hI := h
  obtain ⟨n, ne, slots, lo, v, tp, bs, h1, h2, h3, h4, h5, h6, h7, h8⟩ := h
  have hC : Core S O n ne slots lo v tp bs := ⟨h4, h5⟩
  unfold f_X11_same f_X12_same
  dsimp only [jn, jk]
  rcases q_find hC x up with ⟨S', e1, rfl, e2⟩ | ⟨S', u, e1, e2, f, hu, hs, hT, hf, ho, hx, hup, hk⟩
  · rw [e1, e2]
    exact ⟨-2, _, rfl, rfl, hI⟩
  · rw [e1, e2]
    dsimp only [Option.bind_some]
    rw [if_neg (by decide), if_neg (by decide)]
    have hC1 := Core_fr hC f (FrR_refl O)
    rcases q_find hC1 x2 up2 with ⟨S2, g1, rfl, g2⟩ | ⟨S2, u2, g1, g2, f2, hu2, hs2, hT2, hf2, ho2, hx2, hup2, hk2⟩
    · rw [g1, g2]
      exact ⟨-2, _, rfl, rfl, Inv_fr hI f (FrR_refl O)⟩
    · rw [g1, g2]
      dsimp only [Option.bind_some]
      rw [if_neg (show ¬ (1 : Int) = 0 by decide), if_neg (show ¬ (1 : Int) = 0 by decide), (q_region hC hu hs ho hx hup).1, (cl_found hT hf (c_row hC hu).2.1).1, (q_region hC hu2 hs2 ho2 hx2 hup2).1, (cl_found hT2 hf2 (c_row hC hu2).2.1).1]
      dsimp only [Option.bind_some]
      by_cases q : blV O u x up = blV O u2 x2 up2
      · rw [if_pos q, if_pos q]
        exact ⟨1, _, rfl, rfl, Inv_fr hI (FrQ_trans f f2) (FrR_refl O)⟩
      · rw [if_neg q, if_neg q]
        exact ⟨0, _, rfl, rfl, Inv_fr hI (FrQ_trans f f2) (FrR_refl O)⟩
end PTS
