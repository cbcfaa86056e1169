/-! LEVEL 3, ab: trapezes, the reference -/
section TRAPR
variable {S : Sst} {O : Smo} {n ne slots v tp bs : Nat} {lo : Nat → Nat}
theorem nxV_0 (h : Core S O n ne slots lo v tp bs) (s : Nat) : nxV O s 0 = -2 := by
  unfold nxV
  rw [if_neg (fun q => ?_)]
  exact set0 h (((c_row h (Nat.zero_le v)).2.2.1 s).mp q)
theorem rf_nx (h : Core S O n ne slots lo v tp bs) {O1 : Smo} (hR : FrR O O1) {u s : Nat} (hu : u ≤ v) (hs : s < n) : ∃ O2, f_X12_nextTo (s : Int) (u : Int) 1 O1 = some (nxV O s u, O2) ∧ FrR O O2 := by
  obtain ⟨⟨x, O2⟩, e, hx, f⟩ := rf_next (Core_fr h (FrQ_refl S) hR) hu hs (d := 1) (Or.inl rfl)
  dsimp only at hx f
  refine ⟨O2, ?_, FrR_trans hR f⟩
  rw [e, hx]
  show some (nxV O1 s u, O2) = _
  rw [nxV_fr hR]
theorem rf_trap1 (h : Core S O n ne slots lo v tp bs) {s : Nat} (hs : s < n) {O0 : Smo} (hR : FrR O O0) {base : Int} (hb : 0 ≤ base ∧ base ≤ 1000) : Ret (lp (fun (s9812 : Int × Int × Int × Smo) =>
        if s9812.2.2.2 262 47 < s9812.2.2.1 then
          (some (Sum.inr (s9812.1, s9812.2.2.2)))
        else
          (Option.bind (f_X12_nextTo (s : Int) s9812.2.2.1 1 s9812.2.2.2) fun (q9821 : Int × Smo) =>
          Option.bind (
            if 0 < s9812.2.2.1 then
              (Option.bind (f_X12_nextTo (s : Int) (wr (s9812.2.2.1 - 1)) 1 q9821.2) fun (q9829 : Int × Smo) =>
              if q9821.1 = q9829.1 then
                (some (s9812.2.1, q9829.2))
              else
                (Option.bind (f_X12_placeOf s9812.2.2.1 q9829.2) fun (q9833 : Int) =>
                some (q9833, q9829.2)))
            else
              (some (s9812.2.1, q9821.2))) fun (q9823 : Int × Smo) =>
          Option.bind (
            if s9812.2.2.1 = q9823.2 262 47 then
              (some (1, q9823.2))
            else
              (Option.bind (f_X12_nextTo (s : Int) (wr (s9812.2.2.1 + 1)) 1 q9823.2) fun (q9842 : Int × Smo) =>
              if q9821.1 = q9842.1 then
                (some (0, q9842.2))
              else
                (some (1, q9842.2)))) fun (q9836 : Int × Smo) =>
          Option.bind (
            if (q9821.1 = (-2) ∨ q9836.1 = 0) then
              (some 0)
            else
              (Option.bind (f_X12_endOf s9812.2.2.1 q9836.2) fun (q9853 : Int) =>
              if q9823.1 < q9853 then
                (some 1)
              else
                (some 0))) fun (q9845 : Int) =>
          jn (wr (s9812.1 + (f_X12_truth q9845))) fun (v9859 : Int) =>
          some (Sum.inl (v9859, q9823.1, wr (s9812.2.2.1 + 1), q9836.2)))) FU (base, 0, 0, O0)) (fun r => r.1 = base + cz O s (v + 1) + fz O v (if f_X8_nextEvent S = -1 then 60 else f_X8_nextEvent S) s ∧ FrR O r.2) := by
  have hn8 := h.1.2.1.1
  have hv40 : v ≤ 40 := by have := h.2.2.2.2.1; omega
  have h00 := nxV_0 h s
  obtain ⟨e, ee1, ee2, ee3, ee4⟩ := nextE h.1 h.2
  have hE := h.1.2.2.2.1.2.2.1
  generalize hen : (if f_X8_nextEvent S = -1 then (60 : Int) else f_X8_nextEvent S) = en
  have hd0 : dz O s 0 = 0 := if_pos h00
  refine Ret_lp (fun c q => q.1 = base + cz O s (min (c + 1) (v + 1)) + (if c = v + 1 then fz O v en s else 0) ∧ q.2.1 = bgS O s c ∧ q.2.2.1 = (c : Int) ∧ FrR O q.2.2.2) (v + 1) (by omega) ⟨?_, rfl, rfl, hR⟩ (fun c q hc hI => ?_) (fun q hI => ?_)
  · rw [if_neg (by omega), show min (0 + 1) (v + 1) = 1 by omega]
    show base = base + (0 + dz O s 0) + 0
    omega
  · obtain ⟨t, bg, z, O1⟩ := q
    obtain ⟨rfl, rfl, rfl, f1⟩ := hI
    dsimp only [jn] at *
    have hC1 := Core_fr h (FrQ_refl S) f1
    obtain ⟨O2, e2, f2⟩ := rf_nx h f1 (show c ≤ v by omega) hs
    rw [if_neg (c := O1 262 47 < (c : Int)) (by rw [hC1.2.1]; omega), e2]
    dsimp only [Option.bind_some]
    have hbeg : ∃ O3, (if 0 < (c : Int) then
              (Option.bind (f_X12_nextTo (s : Int) (wr ((c : Int) - 1)) 1 O2) fun (q9829 : Int × Smo) =>
              if nxV O s c = q9829.1 then
                (some (bgS O s c, q9829.2))
              else
                (Option.bind (f_X12_placeOf (c : Int) q9829.2) fun (q9833 : Int) =>
                some (q9833, q9829.2)))
            else
              (some (bgS O s c, O2))) = some (bgS O s (c + 1), O3) ∧ FrR O O3 := by
      cases c with
      | zero =>
        rw [if_neg (by decide)]
        refine ⟨O2, ?_, f2⟩
        rw [show bgS O s (0 + 1) = if nxV O s 0 = -2 then 0 else O 282 0 from rfl, if_pos h00]
        rfl
      | succ j =>
        obtain ⟨O3, e3, f3⟩ := rf_nx h f2 (show j ≤ v by omega) hs
        rw [if_pos (by omega), wr_id (by omega) (by omega), show ((j + 1 : Nat) : Int) - 1 = (j : Int) by omega, e3]
        dsimp only [Option.bind_some]
        rw [(q_place (Core_fr h (FrQ_refl S) f3).2 (show j + 1 ≤ v by omega)).2, FrR_282 f3]
        rw [show bgS O s (j + 1 + 1) = if nxV O s (j + 1) = nxV O s j then bgS O s (j + 1) else O 282 (j + 1) from rfl]
        refine ⟨O3, ?_, f3⟩
        by_cases q : nxV O s (j + 1) = nxV O s j
        · rw [if_pos q, if_pos q]
        · rw [if_neg q, if_neg q]; rfl
    obtain ⟨O3, e3, f3⟩ := hbeg
    rw [e3]
    dsimp only [Option.bind_some]
    have hC3 := Core_fr h (FrQ_refl S) f3
    have h47 := hC3.2.1
    have hcz := cz_bd O s (c + 1)
    have hf01 := fz01 O v en s
    by_cases hcv : c = v
    · subst hcv
      rw [if_pos (c := (c : Int) = O3 262 47) h47.symm]
      dsimp only [Option.bind_some]
      have hlast : ∃ q, (if (nxV O s c = -2 ∨ (1 : Int) = 0) then (some 0) else (Option.bind (f_X12_endOf (c : Int) O3) fun (q9853 : Int) => if bgS O s (c + 1) < q9853 then (some 1) else (some 0))) = some q ∧ f_X12_truth q = fz O c en s := by
        unfold fz
        rw [show nxS O s (c + 1) = nxV O s c from rfl]
        by_cases q : nxV O s c = -2
        · rw [if_pos (Or.inl q), if_pos q]
          exact ⟨0, rfl, rfl⟩
        · rw [if_neg (by omega), if_neg q]
          have hmem : s ∈ rowV O c := by
            by_cases w : s ∈ rowV O c
            · exact w
            · exact absurd (if_neg w) q
          have hlt : e < ne := by
            obtain ⟨_, _, e', x1, _, _, x2⟩ := (c_ver h (Nat.le_refl c)).2
            have : e' = e := by omega
            subst this
            exact (x2 s (((c_row h (Nat.le_refl c)).2.2.1 s).mp hmem)).1
          have hE1 := hE e hlt
          have hen' : en = O 281 e := by
            rw [← hen, ee3, if_pos hlt, if_neg (by omega)]
          have hen3 : f_X12_nextEvent O3 = some (O 281 e) := by
            obtain ⟨e', b1, b2, b3, b4⟩ := nextE hC3.1 hC3.2
            have x1 : e' = e := by rw [FrR_282 f3] at b1; omega
            rw [b4, x1, if_pos hlt, FrR_o f3 281 (by decide) (by decide)]
          unfold f_X12_endOf
          rw [hC3.2.1, if_neg (by omega), hen3]
          dsimp only [Option.bind_some]
          rw [if_neg (by omega), hen']
          by_cases w : bgS O s (c + 1) < O 281 e
          · rw [if_neg (by omega)]
            dsimp only [Option.bind_some]
            rw [if_pos w]
            exact ⟨1, rfl, rfl⟩
          · rw [if_pos w]
            dsimp only [Option.bind_some]
            rw [if_neg w]
            exact ⟨0, rfl, rfl⟩
      obtain ⟨q, k1, k2⟩ := hlast
      rw [k1]
      dsimp only [Option.bind_some]
      rw [k2, if_neg (c := c = c + 1) (by omega), show min (c + 1) (c + 1) = c + 1 by omega, wr_id (by omega) (by omega), wr_id (by omega) (by omega)]
      refine Ret_some ⟨_, rfl, ?_, rfl, by simp, f3⟩
      dsimp only
      rw [if_pos rfl, show min (c + 1 + 1) (c + 1) = c + 1 by omega]
      omega
    · rw [if_neg (c := (c : Int) = O3 262 47) (by omega)]
      obtain ⟨O4, e4, f4⟩ := rf_nx h f3 (show c + 1 ≤ v by omega) hs
      have hC4 := Core_fr h (FrQ_refl S) f4
      rw [wr_id (z := (c : Int) + 1) (by omega) (by omega), show (c : Int) + 1 = ((c + 1 : Nat) : Int) by omega, e4]
      dsimp only [Option.bind_some]
      have hlast : ∃ q, (Option.bind (if nxV O s c = nxV O s (c + 1) then some ((0 : Int), O4) else some (1, O4)) fun (q9836 : Int × Smo) =>
          Option.bind (
            if (nxV O s c = (-2) ∨ q9836.1 = 0) then
              (some 0)
            else
              (Option.bind (f_X12_endOf (c : Int) q9836.2) fun (q9853 : Int) =>
              if bgS O s (c + 1) < q9853 then
                (some 1)
              else
                (some 0))) fun (q9845 : Int) => some (q9836, q9845)) = some (q, if dz O s (c + 1) = 0 then 0 else 1) ∧ q.2 = O4 := by
        have hend : f_X12_endOf (c : Int) O4 = some (O 282 (c + 1)) := by
          unfold f_X12_endOf
          rw [hC4.2.1, if_pos (by omega), wr_id (by omega) (by omega), show (c : Int) + 1 = ((c + 1 : Nat) : Int) by omega, (q_place hC4.2 (show c + 1 ≤ v by omega)).2, FrR_282 f4]
          rfl
        rw [show dz O s (c + 1) = if nxV O s (c + 1) = nxV O s c then 0 else if nxV O s c = -2 ∨ ¬ bgS O s (c + 1) < O 282 (c + 1) then 0 else 1 from rfl]
        by_cases q : nxV O s c = nxV O s (c + 1)
        · rw [if_pos q, if_pos (c := nxV O s (c + 1) = nxV O s c) q.symm]
          dsimp only [Option.bind_some]
          rw [if_pos (c := nxV O s c = -2 ∨ (0 : Int) = 0) (Or.inr rfl), if_pos rfl]
          exact ⟨_, rfl, rfl⟩
        · rw [if_neg q, if_neg (c := nxV O s (c + 1) = nxV O s c) (fun w => q w.symm)]
          dsimp only [Option.bind_some]
          by_cases w : nxV O s c = -2
          · rw [if_pos (Or.inl w), if_pos (c := nxV O s c = -2 ∨ _) (Or.inl w), if_pos rfl]
            exact ⟨_, rfl, rfl⟩
          · rw [if_neg (c := nxV O s c = -2 ∨ (1 : Int) = 0) (by omega), hend]
            dsimp only [Option.bind_some]
            by_cases w2 : bgS O s (c + 1) < O 282 (c + 1)
            · rw [if_pos w2, if_neg (c := nxV O s c = -2 ∨ _) (fun x => x.elim w (fun y => y w2)), if_neg (by decide)]
              exact ⟨_, rfl, rfl⟩
            · rw [if_neg w2, if_pos (c := nxV O s c = -2 ∨ _) (Or.inr w2), if_pos rfl]
              exact ⟨_, rfl, rfl⟩
      obtain ⟨⟨q1, q2⟩, k1, rfl⟩ := hlast
      have hk : ∀ {β : Type} (a : Option (Int × Smo)) (b : Int × Smo → Option Int) (F : Int × Smo → Int → Option β) (x : Int × Smo) (y : Int), (Option.bind a fun q => Option.bind (b q) fun w => some (q, w)) = some (x, y) → (Option.bind a fun q => Option.bind (b q) fun w => F q w) = F x y := by
        intro β a b F x y hh
        cases a with
        | none => exact absurd hh (by simp)
        | some a =>
          dsimp only [Option.bind_some] at hh ⊢
          cases hb2 : b a with
          | none => rw [hb2] at hh; exact absurd hh (by simp)
          | some w =>
            rw [hb2] at hh
            dsimp only [Option.bind_some] at hh ⊢
            cases hh
            rfl
      rw [hk _ _ (fun (q9836 : Int × Smo) (q9845 : Int) => some (Sum.inl (wr (base + cz O s (min (c + 1) (v + 1)) + (if c = v + 1 then fz O v en s else 0) + f_X12_truth q9845), bgS O s (c + 1), ((c + 1 : Nat) : Int), q9836.2))) _ _ k1]
      have hd01 := dz01 O s (c + 1)
      have ht : f_X12_truth (if dz O s (c + 1) = 0 then 0 else 1) = dz O s (c + 1) := by
        by_cases q : dz O s (c + 1) = 0
        · rw [if_pos q, q]; rfl
        · rw [if_neg q, show dz O s (c + 1) = 1 by omega]; rfl
      rw [ht, if_neg (c := c = v + 1) (by omega), show min (c + 1) (v + 1) = c + 1 by omega, wr_id (by omega) (by omega)]
      refine Ret_some ⟨_, rfl, ?_, rfl, rfl, f4⟩
      dsimp only
      rw [if_neg (by omega), show min (c + 1 + 1) (v + 1) = c + 1 + 1 by omega, show cz O s (c + 1 + 1) = cz O s (c + 1) + dz O s (c + 1) from rfl]
      omega
  · obtain ⟨t, bg, z, O1⟩ := q
    obtain ⟨rfl, rfl, rfl, f1⟩ := hI
    dsimp only [jn] at *
    have hC1 := Core_fr h (FrQ_refl S) f1
    rw [if_pos (c := O1 262 47 < ((v + 1 : Nat) : Int)) (by rw [hC1.2.1]; omega), if_pos rfl, show min (v + 1 + 1) (v + 1) = v + 1 by omega]
    exact Ret_some ⟨_, rfl, rfl, f1⟩
theorem op_trapezes {S : Sst} {O : Smo} (h : Inv S O) : Op2 (f_X11_trapezes S) (f_X12_trapezes O) := by
  have hI := h
  obtain ⟨n, ne, slots, lo, v, tp, bs, h1, h2, h3, h4, h5, h6, h7, h8⟩ := h
  have hC : Core S O n ne slots lo v tp bs := ⟨h4, h5⟩
  have hn8 := h4.2.1.1
  have hv40 : v ≤ 40 := by have := h5.2.2.2.1; omega
  obtain ⟨⟨a, S'⟩, e1, ha, fr⟩ := cl_trap hC
  dsimp only at ha fr
  generalize hen : (if f_X8_nextEvent S = -1 then (60 : Int) else f_X8_nextEvent S) = en at ha
  have hsb : ∀ i, i ≤ 8 → 0 ≤ sm (fun s => cz O s (v + 1) + fz O v en s) i ∧ sm (fun s => cz O s (v + 1) + fz O v en s) i ≤ 42 * i := fun i hi => sm_bd i (fun s _ => by
    have := cz_bd O s (v + 1)
    have := fz01 O v en s
    omega)
  have hr : Ret (f_X12_trapezes O) (fun r => r.1 = sm (fun s => cz O s (v + 1) + fz O v en s) n ∧ FrR O r.2) := by
    unfold f_X12_trapezes
    refine Ret_bind (Ret_lp (fun i q => q.1 = sm (fun s => cz O s (v + 1) + fz O v en s) i ∧ q.2.1 = (i : Int) ∧ FrR O q.2.2) n (by omega) ⟨rfl, rfl, FrR_refl O⟩ (fun i q hi hI => ?_) (fun q hI => ?_) (Q := fun r => r.1 = sm (fun s => cz O s (v + 1) + fz O v en s) n ∧ FrR O r.2)) (fun r hr => Ret_some hr)
    · obtain ⟨t, z, O1⟩ := q
      obtain ⟨rfl, rfl, f1⟩ := hI
      dsimp only at *
      have h39 : O1 262 39 = (n : Int) := (Core_fr hC (FrQ_refl S) f1).1.2.2.2.2.1
      have hb := hsb i (by omega)
      rw [if_pos (c := (i : Int) < O1 262 39) (by rw [h39]; omega)]
      refine Ret_bind (rf_trap1 hC hi f1 (base := sm (fun s => cz O s (v + 1) + fz O v en s) i) (by omega)) (fun r hr => ?_)
      obtain ⟨r1, r2⟩ := hr
      rw [wr_id (by omega) (by omega)]
      refine Ret_some ⟨_, rfl, ?_, by simp, r2⟩
      dsimp only
      rw [r1, hen, sm_s]
      omega
    · obtain ⟨t, z, O1⟩ := q
      obtain ⟨rfl, rfl, f1⟩ := hI
      dsimp only at *
      have h39 : O1 262 39 = (n : Int) := (Core_fr hC (FrQ_refl S) f1).1.2.2.2.2.1
      rw [if_neg (c := (n : Int) < O1 262 39) (by rw [h39]; omega)]
      exact Ret_some ⟨_, rfl, rfl, f1⟩
  obtain ⟨⟨b, O'⟩, e2, hb, fo⟩ := hr
  dsimp only at hb fo
  unfold f_X11_trapezes
  rw [e1, e2, ha, hb]
  exact ⟨_, _, _, rfl, rfl, Inv_fr hI fr fo⟩
end TRAPR
