/-! LEVEL 3, au: a segment is read, on both sides -/
def gU (g : Sg) (c : Nat) (a u b v : Int) : Sg := (updI g.1 c a, updI g.2.1 c u, updI g.2.2.1 c b, updI g.2.2.2 c v)
theorem cl_addSeg {S : Sst} {g : Sg} {c : Nat} {a u b v : Int} (h : RPl 5 S g c) (hc : c < 8) (h1 : 0 ≤ a ∧ a ≤ 60) (h2 : 0 ≤ u ∧ u ≤ 60) (h3 : 0 ≤ b ∧ b ≤ 60) (h4 : 0 ≤ v ∧ v ≤ 60) : RPl 5 (f_X4_addSegment 5 a u b v S) (gU g c a u b v) (c + 1) ∧ (∀ k, k ∉ [6, 8, 10, 12, 14, 16] → (f_X4_addSegment 5 a u b v S).1 k = S.1 k) ∧ (f_X4_addSegment 5 a u b v S).2 = S.2 := by
  obtain ⟨r1, r2, r3, r4, r5, r6⟩ := h
  have key : f_X4_addSegment 5 a u b v S = upR (upR (upR (upR (upR (upR S 6 (rg (c + 1) (updI (sga g) c a))) 8 (rg (c + 1) (updI (sgu g) c u))) 10 (rg (c + 1) (updI (sgb g) c b))) 12 (rg (c + 1) (updI (sgv g) c v))) 14 (rg (c + 1) (updI (gW g) c (b - a)))) 16 (rg (c + 1) (updI (gR g) c (v - u))) := by
    unfold f_X4_addSegment
    dsimp only [jn]
    rw [wr_id (z := b - a) (by omega) (by omega), wr_id (z := v - u) (by omega) (by omega)]
    rw [add_rg r1 (by rw [show 5 + 1 + 1 = 7 by rfl, Ln7]; exact hc)]
    rw [add_rg (q := 5 + 3) (n := c) (f := sgu g) (by rw [upR_ne _ _ (by decide)]; exact r2) (by rw [show 5 + 3 + 1 = 9 by rfl, Ln9]; exact hc)]
    rw [add_rg (q := 5 + 5) (n := c) (f := sgb g) (by rw [upR_ne _ _ (by decide), upR_ne _ _ (by decide)]; exact r3) (by rw [show 5 + 5 + 1 = 11 by rfl, Ln11]; exact hc)]
    rw [add_rg (q := 5 + 7) (n := c) (f := sgv g) (by rw [upR_ne _ _ (by decide), upR_ne _ _ (by decide), upR_ne _ _ (by decide)]; exact r4) (by rw [show 5 + 7 + 1 = 13 by rfl, Ln13]; exact hc)]
    rw [add_rg (q := 5 + 9) (n := c) (f := gW g) (by rw [upR_ne _ _ (by decide), upR_ne _ _ (by decide), upR_ne _ _ (by decide), upR_ne _ _ (by decide)]; exact r5) (by rw [show 5 + 9 + 1 = 15 by rfl, Ln15]; exact hc)]
    rw [add_rg (q := 5 + 11) (n := c) (f := gR g) (by rw [upR_ne _ _ (by decide), upR_ne _ _ (by decide), upR_ne _ _ (by decide), upR_ne _ _ (by decide), upR_ne _ _ (by decide)]; exact r6) (by rw [show 5 + 11 + 1 = 17 by rfl, Ln17]; exact hc)]
  rw [key]
  refine ⟨⟨?_, ?_, ?_, ?_, ?_, ?_⟩, fun k hk => ?_, rfl⟩
  · show (upR _ _ _).1 6 = _
    rw [upR_ne _ _ (by decide), upR_ne _ _ (by decide), upR_ne _ _ (by decide), upR_ne _ _ (by decide), upR_ne _ _ (by decide), upR_at]
    rfl
  · show (upR _ _ _).1 8 = _
    rw [upR_ne _ _ (by decide), upR_ne _ _ (by decide), upR_ne _ _ (by decide), upR_ne _ _ (by decide), upR_at]
    rfl
  · show (upR _ _ _).1 10 = _
    rw [upR_ne _ _ (by decide), upR_ne _ _ (by decide), upR_ne _ _ (by decide), upR_at]
    rfl
  · show (upR _ _ _).1 12 = _
    rw [upR_ne _ _ (by decide), upR_ne _ _ (by decide), upR_at]
    rfl
  · show (upR _ _ _).1 14 = _
    rw [upR_ne _ _ (by decide), upR_at]
    refine rg_ext (fun k hk => ?_)
    show updI (gW g) c (b - a) k = updI g.2.2.1 c b k - updI g.1 c a k
    by_cases e : k = c
    · rw [e, upd_same, upd_same, upd_same]
    · rw [upd_ne e, upd_ne e, upd_ne e]; rfl
  · show (upR _ _ _).1 16 = _
    rw [upR_at]
    refine rg_ext (fun k hk => ?_)
    show updI (gR g) c (v - u) k = updI g.2.2.2 c v k - updI g.2.1 c u k
    by_cases e : k = c
    · rw [e, upd_same, upd_same, upd_same]
    · rw [upd_ne e, upd_ne e, upd_ne e]; rfl
  · simp at hk
    rw [upR_ne _ _ (by omega), upR_ne _ _ (by omega), upR_ne _ _ (by omega), upR_ne _ _ (by omega), upR_ne _ _ (by omega), upR_ne _ _ (by omega)]
/-- what is said of two segments depends on them alone -/
theorem seg_congr {g g' : Sg} {i : Nat} (h : sga g' i = sga g i ∧ sgu g' i = sgu g i ∧ sgb g' i = sgb g i ∧ sgv g' i = sgv g i) : SegB g' i ↔ SegB g i := by
  unfold SegB
  rw [h.1, h.2.1, h.2.2.1, h.2.2.2]
theorem noMeet_congr {g g' : Sg} {i j : Nat} (h : sga g' i = sga g i ∧ sgu g' i = sgu g i ∧ sgb g' i = sgb g i ∧ sgv g' i = sgv g i) (h' : sga g' j = sga g j ∧ sgu g' j = sgu g j ∧ sgb g' j = sgb g j ∧ sgv g' j = sgv g j) : noMeet g' i j ↔ noMeet g i j := by
  have w1 : gW g' i = gW g i := by unfold gW; rw [h.1, h.2.2.1]
  have w2 : gW g' j = gW g j := by unfold gW; rw [h'.1, h'.2.2.1]
  have r1 : gR g' i = gR g i := by unfold gR; rw [h.2.1, h.2.2.2]
  have r2 : gR g' j = gR g j := by unfold gR; rw [h'.2.1, h'.2.2.2]
  have f1 : ∀ x, gF g' i x = gF g i x := fun x => by unfold gF; rw [w1, r1, h.1, h.2.1]
  have f2 : ∀ x, gF g' j x = gF g j x := fun x => by unfold gF; rw [w2, r2, h'.1, h'.2.1]
  have d : ∀ x, gD g' i j x = gD g i j x := fun x => by unfold gD; rw [f1, f2, w1, w2]
  have lo : gLo g' i j = gLo g i j := by unfold gLo; rw [h.1, h'.1]
  have hi : gHi g' i j = gHi g i j := by unfold gHi; rw [h.2.2.1, h'.2.2.1]
  unfold noMeet
  rw [lo, hi, d, d, h.1, h'.1, h.2.2.1, h'.2.2.1]
theorem gU_old {g : Sg} {c i : Nat} {a u b v : Int} (h : i ≠ c) : sga (gU g c a u b v) i = sga g i ∧ sgu (gU g c a u b v) i = sgu g i ∧ sgb (gU g c a u b v) i = sgb g i ∧ sgv (gU g c a u b v) i = sgv g i := ⟨upd_ne h, upd_ne h, upd_ne h, upd_ne h⟩
theorem gU_new (g : Sg) (c : Nat) (a u b v : Int) : sga (gU g c a u b v) c = a ∧ sgu (gU g c a u b v) c = u ∧ sgb (gU g c a u b v) c = b ∧ sgv (gU g c a u b v) c = v := ⟨upd_same _ _ _, upd_same _ _ _, upd_same _ _ _, upd_same _ _ _⟩
theorem gU_ok {g : Sg} {c : Nat} {a u b v : Int} (hg : OkSeg g c) (hc : c < 8) (hb : SegB (gU g c a u b v) c) (hm : ∀ i, i < c → noMeet (gU g c a u b v) i c) : OkSeg (gU g c a u b v) (c + 1) := by
  refine ⟨by omega, fun i hi => ?_, fun i j hi hj hij => ?_⟩
  · by_cases e : i = c
    · rw [e]; exact hb
    · exact (seg_congr (gU_old e)).mpr (hg.2.1 i (by omega))
  · by_cases e : i = c
    · subst e
      exact noMeet_symm (hm j (by omega))
    · by_cases e' : j = c
      · subst e'
        exact hm i (by omega)
      · exact (noMeet_congr (gU_old e) (gU_old e')).mpr (hg.2.2 i j (by omega) (by omega) hij)
/-- does the last meet another: the class -/
theorem cl_last {S : Sst} {g : Sg} {c : Nat} (h : RPl 5 S g (c + 1)) (hc : c < 8) (hb : ∀ i, i < c + 1 → SegB g i) : ∃ q : Int, f_X4_lastMeetsAnother 5 S = some q ∧ (q = 0 ∨ q = 1) ∧ (q = 0 ↔ ∀ i, i < c → noMeet g i c) := by
  have key : Ret (f_X4_lastMeetsAnother 5 S) (fun q => (q = 0 ∨ q = 1) ∧ (q = 0 ↔ ∀ i, i < c → noMeet g i c)) := by
    unfold f_X4_lastMeetsAnother
    dsimp only [jn]
    rw [pl_count h, wr_id (by omega) (by omega), show ((c + 1 : Nat) : Int) - 1 = (c : Int) by omega]
    refine Ret_bind (P := fun z => (z = Sum.inl () ∧ ∃ i, i < c ∧ ¬ noMeet g i c) ∨ (z = Sum.inr () ∧ ∀ i, i < c → noMeet g i c)) (Ret_lpm (fun z => ∃ i : Nat, z = (i : Int) ∧ i ≤ c ∧ ∀ j, j < i → noMeet g j c) (fun z => c - z.toNat) ⟨0, rfl, Nat.zero_le _, fun j hj => by omega⟩ (by omega) (fun z hz => ?_)) (fun z hz => ?_)
    · obtain ⟨i, rfl, hi, hj⟩ := hz
      by_cases e : i = c
      · rw [if_neg (by omega)]
        exact Ret_some (Or.inr ⟨_, rfl, Or.inr ⟨rfl, fun j w => hj j (by omega)⟩⟩)
      · rw [if_pos (by omega)]
        obtain ⟨q, q1, q2, q3⟩ := cl_meet h (i := i) (j := c) (by omega) (by omega) (hb i (by omega)) (hb c (by omega))
        rw [q1]
        by_cases w : q = 0
        · rw [if_pos w, wr_id (by omega) (by omega)]
          refine Ret_some (Or.inl ⟨_, rfl, ⟨i + 1, by omega, by omega, fun j hj2 => ?_⟩, by omega⟩)
          by_cases e2 : j = i
          · rw [e2]; exact q3.mp w
          · exact hj j (by omega)
        · rw [if_neg w]
          exact Ret_some (Or.inr ⟨_, rfl, Or.inl ⟨rfl, i, by omega, fun x => w (q3.mpr x)⟩⟩)
    · rcases hz with ⟨rfl, i, h1, h2⟩ | ⟨rfl, h1⟩
      · dsimp only [Sum.elim_inl]
        exact Ret_some ⟨Or.inr rfl, fun w => absurd w (by decide), fun w => absurd (w i h1) h2⟩
      · dsimp only [Sum.elim_inr]
        exact Ret_some ⟨Or.inl rfl, fun _ => h1, fun _ => rfl⟩
  obtain ⟨q, a, b, d⟩ := key
  exact ⟨q, a, b, d⟩
section MEETL
variable {T : Nat → Int} {nt cn : Nat} {f : Nat → List Int}
/-- does the last meet another: the reference -/
theorem rf_last {S : Sst} {O : Smo} {p c : Nat} (h : OKT T nt cn f S O p) (hc : c < 8) (hb : ∀ i, i < c + 1 → SegB (gN O) i) : ∃ O', lp (fun (s6207 : Int × Smo) =>
      if (s6207.1 < (c : Int) ∧ s6207.2 262 2 = 0) then
        (Option.bind (f_X12_doMeet s6207.1 (c : Int) s6207.2) fun (q6218 : Int) =>
        jn (
          if q6218 = 0 then
            (s6207.2)
          else
            (jn (f_X12_wrong 5 s6207.2) fun (q6226 : Smo) =>
            q6226)) fun (q6220 : Smo) =>
        some (Sum.inl (wr (s6207.1 + 1), q6220)))
      else
        (some (Sum.inr s6207.2))) FU (0, O) = some O' ∧ (((∀ i, i < c → noMeet (gN O) i c) ∧ O' = O) ∨ (¬ (∀ i, i < c → noMeet (gN O) i c) ∧ O' = f_X12_wrong 5 O)) := by
  obtain ⟨v, i0, _, hv, _⟩ := LT_view h.2
  obtain ⟨S', Of, _, e2, e3, _, _, _, _⟩ := fail_ok h.1 hv h.2.2.1 (a := 5) (by decide)
  have h0 : O 262 2 = 0 := h.1.2.2.2.2.2.1.2.1
  have hF := (FT_0 e3).2
  refine Ret_lpm (fun s => (∃ i : Nat, s = ((i : Int), O) ∧ i ≤ c ∧ ∀ j, j < i → noMeet (gN O) j c) ∨ (s.2 = f_X12_wrong 5 O ∧ ¬ (∀ i, i < c → noMeet (gN O) i c))) (fun s => if s.2 262 2 = 0 then c + 1 - s.1.toNat else 0) (Or.inl ⟨0, rfl, Nat.zero_le _, fun j hj => by omega⟩) (by dsimp only; rw [if_pos h0]; omega) (fun s hs => ?_)
  rcases hs with ⟨i, rfl, hi, hj⟩ | ⟨hs, hn⟩
  · dsimp only [jn]
    by_cases e : i = c
    · rw [if_neg (by omega)]
      exact Ret_some (Or.inr ⟨_, rfl, Or.inl ⟨fun j w => hj j (by omega), rfl⟩⟩)
    · rw [if_pos ⟨by omega, h0⟩]
      obtain ⟨q, q1, q2, q3⟩ := rf_meet (O := O) (i := i) (j := c) (by omega) hc (hb i (by omega)) (hb c (by omega))
      rw [q1]
      dsimp only [Option.bind_some]
      rw [wr_id (by omega) (by omega)]
      by_cases w : q = 0
      · rw [if_pos w]
        refine Ret_some (Or.inl ⟨_, rfl, Or.inl ⟨i + 1, by simp, by omega, fun j hj2 => ?_⟩, ?_⟩)
        · by_cases e2 : j = i
          · rw [e2]; exact q3.mp w
          · exact hj j (by omega)
        · rw [if_pos h0, if_pos h0]; omega
      · rw [if_neg w]
        refine Ret_some (Or.inl ⟨_, rfl, Or.inr ⟨rfl, fun x => w (q3.mpr (x i (by omega)))⟩, ?_⟩)
        rw [if_pos h0, if_neg (by rw [e2]; exact hF)]
        omega
  · rw [if_neg (fun w => by
      have := w.2
      rw [hs, e2] at this
      exact hF this)]
    exact Ret_some (Or.inr ⟨_, rfl, Or.inr ⟨hn, hs⟩⟩)
end MEETL
