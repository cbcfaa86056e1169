/-! LEVEL 3, vv: hidden -/
theorem upS_same (S : Sst) (k j : Nat) (v : Int) : (upS S k j v).2 k j = v := up2_same _ _ _ _
theorem q_show2 {S : Sst} {O : Smo} {n ne slots v tp bs : Nat} {lo : Nat → Nat} (h : Core S O n ne slots lo v tp bs) {u : Nat} (hu : u ≤ v) : Ret (f_X8_show u S) (fun S' => FrQ S S' ∧ clTree S' (O 280) (rowV O u) ∧ ∀ k j, k ≠ 59 → S'.2 k j = S.2 k j) := by
  have hv := (c_ver h hu).1
  unfold f_X8_show
  rw [(q_set h.2 hu).1]
  refine Ret_bind (cl_build h.1.1.2.1 h.1.1.2.2.1 h.1.1.2.2.2.2.2 h.1.2.1 hv.1) (fun S' hS' => Ret_some ⟨⟨fun k a b c d => ?_, fun k j a b => ?_⟩, hS'.2, fun k j hk => ?_⟩)
  · exact hS'.1.1 k (by simp [kTree]; omega)
  · exact hS'.1.2 k j (by simp [jTree]; omega)
  · exact hS'.1.2 k j (by simp [jTree]; omega)
theorem clTree_fr {S S' : Sst} {w : Nat → Int} {r : List Nat} (h : clTree S w r) (e1 : ∀ k, S'.1 k = S.1 k) (e2 : ∀ j, S'.2 59 j = S.2 59 j) : clTree S' w r := by
  unfold clTree at *
  rw [e1, e1, e1, e1, e1, e2, e2]
  exact h
theorem op_hidden {S : Sst} {O : Smo} (h : Inv S O) (a : Int) : Op1 S O (f_X11_hidden a S) (f_X12_hidden a O) := by
  have hI := h
  obtain ⟨n, ne, slots, lo, v, tp, bs, h1, h2, h3, h4, h5, h6, h7, h8⟩ := h
  have hC : Core S O n ne slots lo v tp bs := ⟨h4, h5⟩
  obtain ⟨b0, b01, w1, w2, w3⟩ := q_swept hC 0 (by decide)
  unfold f_X11_hidden f_X12_hidden f_X12_isIn
  rw [w1]
  by_cases hb : b0 = 0
  · rw [if_pos hb]
    subst hb
    by_cases ha : a < 0 ∨ 2 < a
    · rw [if_pos ha, if_pos rfl]
      exact ⟨_, _, rfl, rfl, hI⟩
    · rw [if_neg ha, if_neg (show ¬ (1 : Int) = 0 by decide)]
      refine ⟨-1, S, rfl, ?_, hI⟩
      refine Ret_eq (Ret_bind (P := fun r => r = ((-1 : Int), (-1 : Int), (-1 : Int))) (Ret_lp (fun c q => q = ((-1 : Int), (-1 : Int), (-1 : Int), (0 : Int))) 0 (by decide) rfl (fun c q hc => by omega) (fun q hI => ?_)) (fun r hr => ?_))
      · subst hI
        dsimp only
        rw [if_neg (by decide), w2]
        dsimp only [Option.bind_some]
        rw [if_pos rfl]
        exact Ret_some ⟨_, rfl, rfl⟩
      · subst hr
        dsimp only
        split
        · exact Ret_some rfl
        · split
          · exact Ret_some rfl
          · exact Ret_some rfl
  · have hb1 : b0 = 1 := by omega
    subst hb1
    have hsw0 : swept O v ne 0 := w3.mp rfl
    rw [if_neg hb]
    have key : ∃ r q, lp (fun (s4326 : Int × Int × Sst) =>
    if (60 < s4326.2.1 ∨ f_X8_isSwept s4326.2.1 s4326.2.2 = 0) then
      (some (Sum.inr s4326.2.2))
    else
      (Option.bind (f_X8_stampOf s4326.2.1 s4326.2.2) fun (q4337 : Int) =>
      Option.bind (f_X8_showUnlessShown q4337 s4326.1 s4326.2.2) fun (q4340 : Int × Sst) =>
      Option.bind (f_X8_countFartherUp s4326.2.1 0 q4340.2) fun (q4343 : Sst) =>
      jn (
        if q4343.2 242 4 < q4343.2 242 1 then
          (jn (upS q4343 242 4 (q4343.2 242 1)) fun (S4353 : Sst) =>
          jn (upS S4353 242 2 s4326.2.1) fun (S4354 : Sst) =>
          S4354)
        else
          (q4343)) fun (q4347 : Sst) =>
      some (Sum.inl (q4340.1, wr (s4326.2.1 + 1), q4347)))) FU ((-1), 0, upS (upS (upS S 242 2 0) 242 3 0) 242 4 (-1)) = some r ∧ lp (fun (s10134 : Int × Int × Int × Int) =>
      if 60 < s10134.2.2.2 then
        (some (Sum.inr (s10134.1, s10134.2.1, s10134.2.2.1)))
      else
        (Option.bind (f_X12_isSwept s10134.2.2.2 O) fun (q10142 : Int) =>
        if q10142 = 0 then
          (some (Sum.inr (s10134.1, s10134.2.1, s10134.2.2.1)))
        else
          (Option.bind (lp (fun (s10145 : Int × Int × Int × Int) =>
            if 60 < s10145.2.2.2 then
              (some (Sum.inr (s10145.1, s10145.2.1, s10145.2.2.1)))
            else
              (Option.bind (f_X12_crossedAt s10134.2.2.2 s10145.2.2.2 O) fun (q10153 : Int) =>
              jn (
                if s10145.2.2.1 < q10153 then
                  ((s10134.2.2.2, s10145.2.2.2, q10153))
                else
                  ((s10145.1, s10145.2.1, s10145.2.2.1))) fun (q10155 : Int × Int × Int) =>
              some (Sum.inl (q10155.1, q10155.2.1, q10155.2.2, wr (s10145.2.2.2 + 1))))) FU (s10134.1, s10134.2.1, s10134.2.2.1, 0)) fun (r10160 : Int × Int × Int) =>
          some (Sum.inl (r10160.1, r10160.2.1, r10160.2.2, wr (s10134.2.2.2 + 1)))))) FU ((-1), (-1), (-1), 0) = some q ∧ (fun (r : Sst) (q : Int × Int × Int) => FrQ S r ∧ r.2 242 2 = q.1 ∧ r.2 242 3 = q.2.1 ∧ r.2 242 4 = q.2.2) r q := by
      refine lp_2 (fun (s : Int × Int × Sst) (t : Int × Int × Int × Int) => ∃ c : Nat, c ≤ 61 ∧ s.2.1 = (c : Int) ∧ t.2.2.2 = (c : Int) ∧ FrQ S s.2.2 ∧ s.2.2.2 242 3 = 0 ∧ s.2.2.2 242 4 = t.2.2.1 ∧ ((c = 0 ∧ t.2.2.1 = -1) ∨ (0 < c ∧ 0 ≤ t.2.2.1 ∧ s.2.2.2 242 2 = t.1 ∧ t.2.1 = 0)) ∧ (s.1 = -1 ∨ ∃ u : Nat, s.1 = (u : Int) ∧ u ≤ v ∧ clTree s.2.2 (O 280) (rowV O u))) (fun s => 62 - s.2.1.toNat) _ (fun s t hI => ?_) FU _ _ ⟨0, by decide, rfl, rfl, ⟨fun _ _ _ _ _ => rfl, fun k j _ hk => by
          rw [upS_ne (Or.inl hk), upS_ne (Or.inl hk), upS_ne (Or.inl hk)]⟩, by rw [upS_ne (Or.inr (by decide))]; exact upS_same _ _ _ _, upS_same _ _ _ _, Or.inl ⟨rfl, rfl⟩, Or.inl rfl⟩ (by unfold FU; dsimp only; omega)
      obtain ⟨last, x, S1⟩ := s
      obtain ⟨t1, t2, t3, x'⟩ := t
      obtain ⟨c, hc, rfl, rfl, fr, i3, i4, i5, i6⟩ := hI
      dsimp only [jn] at *
      have hC1 := Core_fr hC fr (FrR_refl O)
      by_cases hc60 : 60 < (c : Int)
      · right
        rw [if_pos (c := 60 < (c : Int) ∨ _) (Or.inl hc60), if_pos hc60]
        rcases i5 with ⟨e, _⟩ | ⟨_, _, e1, e2⟩
        · omega
        · exact ⟨_, _, rfl, rfl, fr, e1, by rw [i3, e2], i4⟩
      · obtain ⟨b, bb, g1, g2, g3⟩ := q_swept hC1 (c : Int) (by omega)
        rw [g1, g2]
        dsimp only [Option.bind_some]
        by_cases hb : b = 0
        · right
          rw [if_pos (c := 60 < (c : Int) ∨ _) (Or.inr hb), if_neg hc60, if_pos hb]
          rcases i5 with ⟨e, _⟩ | ⟨_, _, e1, e2⟩
          · exfalso
            subst e
            have := g3.mpr hsw0
            omega
          · exact ⟨_, _, rfl, rfl, fr, e1, by rw [i3, e2], i4⟩
        · left
          have hsw := g3.mp (by omega)
          obtain ⟨u, hu, k1, k2, k3, k4⟩ := q_stampOf hC1 (c : Int)
          rw [if_neg (c := 60 < (c : Int) ∨ _) (by omega), if_neg hc60, if_neg hb, k1]
          dsimp only [Option.bind_some]
          have hshow : ∃ S2, f_X8_showUnlessShown (u : Int) last S1 = some ((u : Int), S2) ∧ FrQ S1 S2 ∧ S2.2 242 = S1.2 242 ∧ clTree S2 (O 280) (rowV O u) := by
            unfold f_X8_showUnlessShown
            by_cases e : (u : Int) = last
            · rw [if_pos e]
              rcases i6 with e2 | ⟨u', e2, _, hT⟩
              · omega
              · have : u' = u := by omega
                subst this
                exact ⟨S1, rfl, FrQ_refl _, rfl, hT⟩
            · rw [if_neg e]
              obtain ⟨S2, e2, f2, T2, g⟩ := q_show2 hC1 hu
              rw [e2]
              exact ⟨S2, rfl, f2, funext fun j => g 242 j (by decide), T2⟩
          obtain ⟨S2, e2, f2, e242, T2⟩ := hshow
          have hC2 := Core_fr hC1 f2 (FrR_refl O)
          obtain ⟨S3, e3, f3, r3, n1, n2⟩ := q_count hC2 (x := (c : Int)) (up := 0) (by omega) (by decide) hu T2
          rw [e2]
          dsimp only [Option.bind_some]
          rw [e3]
          dsimp only [Option.bind_some]
          have hin := rf_hid1 hC (show c ≤ 60 by omega) hu k2 (t1, t2, t3)
          dsimp only [jn] at hin
          rw [hin]
          dsimp only [Option.bind_some]
          have m4 : S3.2 242 4 = t3 := by rw [n2 242 4 (by decide), e242, i4]
          have m3 : S3.2 242 3 = 0 := by rw [n2 242 3 (by decide), e242, i3]
          have m2 : S3.2 242 2 = S1.2 242 2 := by rw [n2 242 2 (by decide), e242]
          have T3 : clTree S3 (O 280) (rowV O u) := clTree_fr T2 r3 (fun j => n2 59 j (by simp))
          have fr3 := FrQ_trans (FrQ_trans fr f2) f3
          rw [m4, n1, wr_id (by omega) (by omega)]
          by_cases q : t3 < (fuV O u (c : Int) 0 : Int)
          · rw [if_pos q, if_pos q]
            refine ⟨_, _, rfl, rfl, ⟨c + 1, by omega, by simp, by simp, ?_, ?_, ?_, Or.inr ⟨by omega, ?_, ?_, rfl⟩, Or.inr ⟨u, rfl, hu, ?_⟩⟩, by dsimp only; omega⟩
            · exact FrQ_trans fr3 ⟨fun _ _ _ _ _ => rfl, fun k j _ hk => by
                dsimp only
                rw [upS_ne (Or.inl hk), upS_ne (Or.inl hk)]⟩
            · dsimp only
              rw [upS_ne (Or.inr (by decide)), upS_ne (Or.inr (by decide)), m3]
            · dsimp only
              rw [upS_ne (Or.inr (by decide)), upS_same]
            · dsimp only; omega
            · exact upS_same _ _ _ _
            · exact clTree_fr T3 (fun _ => rfl) (fun j => by
                dsimp only
                rw [upS_ne (Or.inl (by decide)), upS_ne (Or.inl (by decide))])
          · rw [if_neg q, if_neg q]
            refine ⟨_, _, rfl, rfl, ⟨c + 1, by omega, by simp, by simp, fr3, m3, m4, Or.inr ⟨by omega, ?_, ?_, ?_⟩, Or.inr ⟨u, rfl, hu, T3⟩⟩, by dsimp only; omega⟩
            · dsimp only; omega
            · dsimp only
              rw [m2]
              rcases i5 with ⟨_, e⟩ | ⟨_, _, e, _⟩
              · omega
              · exact e
            · dsimp only
              rcases i5 with ⟨_, e⟩ | ⟨_, _, _, e⟩
              · omega
              · exact e
    obtain ⟨r, q, e1, e2, k0, k1, k2, k3⟩ := key
    dsimp only [jn] at e1 e2
    have hh : f_X8_hide S = some r := by
      unfold f_X8_hide
      dsimp only [jn]
      rw [e1]
      rfl
    have hfr := Inv_fr hI k0 (FrR_refl O)
    rw [hh]
    by_cases ha : a < 0 ∨ 2 < a
    · rw [if_neg (c := a = 0) (by omega), if_neg (c := a = 1) (by omega), if_neg (c := a = 2) (by omega), if_pos ha, if_pos rfl]
      exact ⟨_, _, rfl, rfl, hI⟩
    · rw [if_neg ha, if_neg (show ¬ (1 : Int) = 0 by decide)]
      dsimp only [jn]
      rw [e2]
      dsimp only [Option.bind_some]
      by_cases a0 : a = 0
      · rw [if_pos a0, if_pos a0, k1]
        exact ⟨_, _, rfl, rfl, hfr⟩
      · rw [if_neg a0, if_neg a0]
        by_cases a1 : a = 1
        · rw [if_pos a1, if_pos a1, k2]
          exact ⟨_, _, rfl, rfl, hfr⟩
        · rw [if_neg a1, if_neg a1, if_pos (c := a = 2) (by omega), k3]
          exact ⟨_, _, rfl, rfl, hfr⟩
