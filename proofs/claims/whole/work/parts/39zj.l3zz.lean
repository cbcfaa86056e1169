/-! LEVEL 3, zz: trapezes -/
theorem nbF_at {l : List Nat} {s p : Nat} {d : Int} (hnd : l.Nodup) (hp : l[p]? = some s) : ∀ c, p < c → c ≤ l.length → nbF l s d c = if 0 ≤ (p : Int) + d ∧ (p : Int) + d < l.length then lat (natL l) ((p : Int) + d) else -1
  | 0, h, _ => by omega
  | c + 1, h, hc => by
    have hpl : p < l.length := by omega
    have ep : l[p]'hpl = s := by simpa [hpl] using hp
    have gp : l.getD p 0 = s := by
      have : l.getD p 0 = l[p]'hpl := by simp [hpl]
      rw [this, ep]
    have hne : ∀ i, i < l.length → i ≠ p → l.getD i 0 ≠ s := fun i hi hip q => by
      have gi : l.getD i 0 = l[i]'hi := by simp [hi]
      rw [gi, ← ep] at q
      rcases Nat.lt_trichotomy i p with w | w | w
      · exact (List.pairwise_iff_getElem.mp hnd) i p hi hpl w q
      · exact hip w
      · exact (List.pairwise_iff_getElem.mp hnd) p i hpl hi w q.symm
    rw [show nbF l s d (c + 1) = if l.getD c 0 = s ∧ (0 ≤ (c : Int) + d ∧ (c : Int) + d < l.length) then lat (natL l) ((c : Int) + d) else nbF l s d c from rfl]
    by_cases e : c = p
    · subst e
      by_cases q : 0 ≤ (c : Int) + d ∧ (c : Int) + d < l.length
      · rw [if_pos ⟨gp, q⟩, if_pos q]
      · rw [if_neg (fun w => q w.2), if_neg q]
        exact nbF_none c (fun i hi => hne i (by omega) (by omega))
    · rw [if_neg (fun w => hne c (by omega) e w.1)]
      exact nbF_at hnd hp c (by omega) (by omega)
def nxV (O : Smo) (s u : Nat) : Int := if s ∈ rowV O u then nbF (rowV O u) s 1 (rowV O u).length else -2
theorem nxV_fr {O O' : Smo} (hR : FrR O O') (s u : Nat) : nxV O' s u = nxV O s u := by
  unfold nxV
  rw [rowV_fr hR]
/-- what stands above a segment when c versions are gone through, and the place where that began -/
def nxS (O : Smo) (s : Nat) : Nat → Int
  | 0 => -2
  | c + 1 => nxV O s c
def bgS (O : Smo) (s : Nat) : Nat → Int
  | 0 => 0
  | c + 1 => if nxV O s c = nxS O s c then bgS O s c else O 282 c
def dz (O : Smo) (s c : Nat) : Int := if nxV O s c = nxS O s c then 0 else if nxS O s c = -2 ∨ ¬ bgS O s c < O 282 c then 0 else 1
def cz (O : Smo) (s : Nat) : Nat → Int
  | 0 => 0
  | c + 1 => cz O s c + dz O s c
theorem dz01 (O : Smo) (s c : Nat) : 0 ≤ dz O s c ∧ dz O s c ≤ 1 := by
  unfold dz
  split
  · omega
  · split <;> omega
theorem cz_bd (O : Smo) (s : Nat) : ∀ c, 0 ≤ cz O s c ∧ cz O s c ≤ c
  | 0 => by show (0 : Int) ≤ 0 ∧ (0 : Int) ≤ 0; omega
  | c + 1 => by
    have a := cz_bd O s c
    have b := dz01 O s c
    show 0 ≤ cz O s c + dz O s c ∧ cz O s c + dz O s c ≤ _
    omega
def fz (O : Smo) (v : Nat) (z : Int) (s : Nat) : Int := if nxS O s (v + 1) = -2 then 0 else if ¬ bgS O s (v + 1) < z then 0 else 1
theorem fz01 (O : Smo) (v : Nat) (z : Int) (s : Nat) : 0 ≤ fz O v z s ∧ fz O v z s ≤ 1 := by
  unfold fz
  split
  · omega
  · split <;> omega
section TRAP
variable {S : Sst} {O : Smo} {n ne slots v tp bs : Nat} {lo : Nat → Nat}
theorem cl_aboveOf (h : Core S O n ne slots lo v tp bs) {u s : Nat} (hu : u ≤ v) (h60 : S.1 60 = natL (rowV O u)) : f_X8_aboveOf (s : Int) S = some (nxV O s u) := by
  obtain ⟨c1, c2, c3, c4, c5⟩ := c_row h hu
  have hsz : f_X6_size 60 S = ((rowV O u).length : Int) := by
    unfold f_X6_size
    rw [h60, natL_len]
  unfold nxV
  generalize rowV O u = l at *
  unfold f_X8_aboveOf
  refine Ret_eq (Ret_bind (P := fun z => (∃ p : Nat, z = Sum.inl (p : Int) ∧ l[p]? = some s) ∨ (z = Sum.inr () ∧ s ∉ l)) (Ret_lpm (fun q => ∃ c : Nat, q = (c : Int) ∧ c ≤ l.length ∧ ∀ i, i < c → l[i]? ≠ some s) (fun q => l.length + 1 - q.toNat) ⟨0, rfl, Nat.zero_le _, fun i hi => by omega⟩ (by omega) (fun q hI => ?_)) (fun z hz => ?_))
  · obtain ⟨c, rfl, hc, hi⟩ := hI
    rw [hsz]
    by_cases e : c = l.length
    · rw [if_neg (by omega)]
      refine Ret_some (Or.inr ⟨_, rfl, Or.inr ⟨rfl, fun hm => ?_⟩⟩)
      obtain ⟨p, hp, ep⟩ := List.getElem_of_mem hm
      exact hi p (by omega) (by simp [hp, ep])
    · have hcl : c < l.length := by omega
      have hg : l[c]? = some (l[c]'hcl) := by simp [hcl]
      rw [if_pos (by omega)]
      unfold f_X6_at
      rw [h60, lat_natL hg]
      by_cases q : l[c]'hcl = s
      · rw [if_pos (by rw [q])]
        exact Ret_some (Or.inr ⟨_, rfl, Or.inl ⟨c, rfl, by rw [hg, q]⟩⟩)
      · rw [if_neg (by omega), wr_id (by omega) (by omega)]
        refine Ret_some (Or.inl ⟨_, rfl, ⟨c + 1, by simp, by omega, fun i h1 w => ?_⟩, by omega⟩)
        by_cases e2 : i = c
        · subst e2
          rw [hg] at w
          exact q (by simpa using w)
        · exact hi i (by omega) w
  · rcases hz with ⟨p, rfl, hp⟩ | ⟨rfl, hm⟩
    · have hpl : p < l.length := by
        by_cases q : p < l.length
        · exact q
        · rw [List.getElem?_eq_none (by omega)] at hp
          exact absurd hp (by simp)
      dsimp only [Sum.elim_inl]
      rw [if_pos (List.mem_of_getElem? hp), nbF_at c1 hp l.length hpl (Nat.le_refl _), wr_id (by omega) (by omega)]
      refine Ret_some ?_
      unfold f_X6_at
      rw [h60]
      by_cases q : (p : Int) + 1 < l.length
      · rw [if_pos ⟨by omega, q⟩]
      · rw [if_neg (fun w => q w.2)]
        exact lat_len (by rw [natL_len]; omega)
    · dsimp only [Sum.elim_inr]
      rw [if_neg hm]
      exact Ret_some rfl
/-- one segment of one version, the class -/
theorem cl_stretch {S : Sst} {s : Nat} (hs : s < 8) {A B : Nat → Int} (hA : S.1 245 = rg 8 A) (hB : S.1 247 = rg 8 B) (x pl : Int) : ∃ S', f_X8_endStretch (s : Int) x pl S = ((if x = A s then 0 else if A s = -2 ∨ ¬ B s < pl then 0 else 1), S') ∧ S'.1 245 = rg 8 (updI A s x) ∧ S'.1 247 = rg 8 (updI B s (if x = A s then B s else pl)) ∧ (∀ k, k ≠ 245 → k ≠ 247 → S'.1 k = S.1 k) ∧ S'.2 = S.2 := by
  unfold f_X8_endStretch
  dsimp only [jn]
  rw [at_nat hA hs, at_nat hB hs]
  by_cases e : A s = x
  · rw [if_pos e, if_pos (c := x = A s) e.symm, if_pos (c := x = A s) e.symm]
    refine ⟨S, rfl, ?_, ?_, fun _ _ _ => rfl, rfl⟩
    · rw [hA]
      exact rg_ext (fun k hk => by
        by_cases q : k = s
        · rw [q, upd_same, e]
        · rw [upd_ne q])
    · rw [hB]
      exact rg_ext (fun k hk => by
        by_cases q : k = s
        · rw [q, upd_same]
        · rw [upd_ne q])
  · rw [if_neg e, if_neg (c := x = A s) (fun q => e q.symm), if_neg (c := x = A s) (fun q => e q.symm)]
    rw [put_rg hA]
    have hB' : (upR S 245 (rg 8 (updI A s x))).1 247 = rg 8 B := by
      rw [upR_ne _ _ (by decide), hB]
    rw [put_rg hB']
    have g : ∀ (a : Sst), (if (if A s = -2 ∨ ¬ B s < pl then (0 : Int) else 1) = 0 then ((0 : Int), a) else (1, a)) = ((if A s = -2 ∨ ¬ B s < pl then (0 : Int) else 1), a) := fun a => by
      by_cases w : A s = -2 ∨ ¬ B s < pl
      · rw [if_pos w, if_pos rfl]
      · rw [if_neg w, if_neg (by decide)]
    rw [g]
    refine ⟨_, rfl, ?_, ?_, fun k h1 h2 => ?_, rfl⟩
    · rw [upR_ne _ _ (by decide), upR_at]
    · rw [upR_at]
    · rw [upR_ne _ _ h2, upR_ne _ _ h1]
theorem sm_s (f : Nat → Int) (c : Nat) : sm f (c + 1) = sm f c + f c := rfl
/-- the class's loop over the versions -/
theorem cl_trap (h : Core S O n ne slots lo v tp bs) : Ret (f_X8_countTrapezes S) (fun r => r.1 = sm (fun s => cz O s (v + 1) + fz O v (if f_X8_nextEvent S = -1 then 60 else f_X8_nextEvent S) s) n ∧ FrQ S r.2) := by
  have hn8 := h.1.2.1.1
  have hv40 : v ≤ 40 := by have := h.2.2.2.2.1; omega
  unfold f_X8_countTrapezes
  dsimp only [jn]
  have hf1 : f_X6_fill 245 8 (-2) S = upR S 245 (rg 8 (fun _ => -2)) := by
    unfold f_X6_fill
    rw [Ln246]
    exact congrArg (upR S 245) (rg_rep 8 (-2))
  have hf2 : ∀ S', f_X6_fill 247 8 0 S' = upR S' 247 (rg 8 (fun _ => 0)) := fun S' => by
    unfold f_X6_fill
    rw [Ln248]
    exact congrArg (upR S' 247) (rg_rep 8 0)
  rw [hf1, hf2]
  have fq2 : ∀ {S1 S2 : Sst}, (∀ k, k ≠ 245 → k ≠ 247 → S2.1 k = S1.1 k) → S2.2 = S1.2 → FrQ S1 S2 := fun e1 e2 => ⟨fun k _ _ a _ => e1 k (by omega) (by omega), fun k j _ _ => by rw [e2]⟩
  refine Ret_bind (P := fun r => r.1 = sm (fun s => cz O s (v + 1)) n ∧ FrQ S r.2 ∧ ∃ A B, r.2.1 245 = rg 8 A ∧ r.2.1 247 = rg 8 B ∧ (∀ s, s < n → A s = nxS O s (v + 1) ∧ B s = bgS O s (v + 1))) (Ret_lp (fun c q => q.1 = sm (fun s => cz O s c) n ∧ q.2.1 = (c : Int) ∧ FrQ S q.2.2 ∧ ∃ A B, q.2.2.1 245 = rg 8 A ∧ q.2.2.1 247 = rg 8 B ∧ (∀ s, s < n → A s = nxS O s c ∧ B s = bgS O s c)) (v + 1) (by omega) ⟨?_, rfl, fq2 (fun k h1 h2 => by dsimp only; rw [upR_ne _ _ h2, upR_ne _ _ h1]) rfl, fun _ => -2, fun _ => 0, by dsimp only; rw [upR_ne _ _ (by decide), upR_at], by dsimp only; rw [upR_at], fun s hs => ⟨rfl, rfl⟩⟩ (fun c q hc hI => ?_) (fun q hI => ?_)) (fun r hr => ?_)
  · exact (sm_0 n).symm
  · obtain ⟨t, z, S1⟩ := q
    obtain ⟨rfl, rfl, fr, A, B, hA, hB, hAB⟩ := hI
    dsimp only at *
    have hC1 := Core_fr h fr (FrR_refl O)
    rw [q_new hC1.2, if_neg (by omega)]
    have hshow : Ret (f_X8_show (c : Int) S1) (fun S2 => FrQ S1 S2 ∧ clTree S2 (O 280) (rowV O c) ∧ S2.1 245 = S1.1 245 ∧ S2.1 247 = S1.1 247) := by
      have hv := (c_ver hC1 (show c ≤ v by omega)).1
      unfold f_X8_show
      rw [(q_set hC1.2 (show c ≤ v by omega)).1]
      refine Ret_bind (cl_build hC1.1.1.2.1 hC1.1.1.2.2.1 hC1.1.1.2.2.2.2.2 hC1.1.2.1 hv.1) (fun S2 f2 => Ret_some ⟨⟨fun k a b c d => f2.1.1 k (by simp [kTree]; omega), fun k j a b => f2.1.2 k j (by simp [jTree]; omega)⟩, f2.2, f2.1.1 245 (by simp [kTree]), f2.1.1 247 (by simp [kTree])⟩)
    obtain ⟨S2, e2, fr2, T2, g245, g247⟩ := hshow
    rw [e2]
    dsimp only [Option.bind_some]
    have hcz : ∀ m, m ≤ 8 → 0 ≤ sm (fun s => cz O s c) m ∧ sm (fun s => cz O s c) m ≤ (c : Int) * m := fun m hm => sm_bd m (fun s _ => cz_bd O s c)
    have hc8 := hcz n hn8
    have hcn : (c : Int) * (n : Int) ≤ 41 * 8 := by
      have : c * n ≤ 41 * 8 := Nat.mul_le_mul (by omega) hn8
      exact_mod_cast this
    refine Ret_bind (P := fun r => r.1 = sm (fun s => cz O s (c + 1)) n ∧ FrQ S r.2 ∧ ∃ A B, r.2.1 245 = rg 8 A ∧ r.2.1 247 = rg 8 B ∧ (∀ s, s < n → A s = nxS O s (c + 1) ∧ B s = bgS O s (c + 1))) (Ret_lp (fun i q => q.1 = sm (fun s => cz O s c) n + sm (fun s => dz O s c) i ∧ q.2.1 = (i : Int) ∧ FrQ S q.2.2 ∧ q.2.2.1 60 = natL (rowV O c) ∧ ∃ A B, q.2.2.1 245 = rg 8 A ∧ q.2.2.1 247 = rg 8 B ∧ (∀ s, s < n → i ≤ s → A s = nxS O s c ∧ B s = bgS O s c) ∧ (∀ s, s < i → A s = nxS O s (c + 1) ∧ B s = bgS O s (c + 1))) n (by omega) ⟨?_, rfl, FrQ_trans fr fr2, T2.1, A, B, by dsimp only; rw [g245, hA], by dsimp only; rw [g247, hB], fun s h1 _ => hAB s h1, fun s h1 => by omega⟩ (fun i q hi hI => ?_) (fun q hI => ?_)) (fun r hr => ?_)
    · show sm (fun s => cz O s c) n = sm (fun s => cz O s c) n + 0
      omega
    · obtain ⟨t, z, S3⟩ := q
      obtain ⟨rfl, rfl, fr3, r60, A', B', hA', hB', k1, k2⟩ := hI
      dsimp only at *
      have hC3 := Core_fr h fr3 (FrR_refl O)
      rw [pl_count hC3.1.1.1, if_pos (by omega), cl_aboveOf hC3 (show c ≤ v by omega) r60]
      dsimp only [Option.bind_some]
      rw [(q_place hC3.2 (show c ≤ v by omega)).1]
      obtain ⟨S4, e4, a1, a2, a3, a4⟩ := cl_stretch (s := i) (by omega) hA' hB' (nxV O i c) (O 282 c)
      rw [e4]
      dsimp only
      obtain ⟨j1, j2⟩ := k1 i hi (Nat.le_refl _)
      have hd : (if nxV O i c = A' i then (0 : Int) else if A' i = -2 ∨ ¬ B' i < O 282 c then 0 else 1) = dz O i c := by
        rw [j1, j2]; rfl
      have hdb : ∀ m, m ≤ 8 → 0 ≤ sm (fun s => dz O s c) m ∧ sm (fun s => dz O s c) m ≤ 1 * m := fun m hm => sm_bd m (fun s _ => dz01 O s c)
      have hd1 := hdb i (by omega)
      have hd2 := dz01 O i c
      rw [hd, wr_id (z := sm (fun s => cz O s c) n + sm (fun s => dz O s c) i + dz O i c) (by omega) (by omega), wr_id (by omega) (by omega)]
      refine Ret_some ⟨_, rfl, ?_, by simp, FrQ_trans fr3 (fq2 a3 a4), by dsimp only; rw [a3 60 (by decide) (by decide), r60], _, _, a1, a2, fun s h1 h2 => ?_, fun s h1 => ?_⟩
      · dsimp only
        rw [sm_s]
        omega
      · rw [upd_ne (by omega), upd_ne (by omega)]
        exact k1 s h1 (by omega)
      · by_cases e : s = i
        · subst e
          rw [upd_same, upd_same, j1, j2]
          exact ⟨rfl, rfl⟩
        · rw [upd_ne e, upd_ne e]
          exact k2 s (by omega)
    · obtain ⟨t, z, S3⟩ := q
      obtain ⟨rfl, rfl, fr3, r60, A', B', hA', hB', k1, k2⟩ := hI
      dsimp only at *
      have hC3 := Core_fr h fr3 (FrR_refl O)
      rw [pl_count hC3.1.1.1, if_neg (by omega)]
      exact Ret_some ⟨_, rfl, (sm_add _ _ n).symm, fr3, A', B', hA', hB', k2⟩
    · obtain ⟨r1, r2, r3⟩ := hr
      rw [wr_id (by omega) (by omega)]
      exact Ret_some ⟨_, rfl, r1, by simp, r2, r3⟩
  · obtain ⟨t, z, S1⟩ := q
    obtain ⟨rfl, rfl, fr, hAB⟩ := hI
    dsimp only at *
    have hC1 := Core_fr h fr (FrR_refl O)
    rw [q_new hC1.2, if_pos (by omega)]
    exact Ret_some ⟨_, rfl, rfl, fr, hAB⟩
  · obtain ⟨t, S1⟩ := r
    obtain ⟨rfl, fr, A, B, hA, hB, hAB⟩ := hr
    dsimp only at *
    have hC1 := Core_fr h fr (FrR_refl O)
    have hne : f_X8_nextEvent S1 = f_X8_nextEvent S := by
      obtain ⟨e, a1, a2, a3, a4⟩ := nextE h.1 h.2
      obtain ⟨e', b1, b2, b3, b4⟩ := nextE hC1.1 hC1.2
      have : e' = e := by omega
      rw [a3, b3, this]
    rw [hne]
    generalize (if f_X8_nextEvent S = -1 then (60 : Int) else f_X8_nextEvent S) = en
    have hcz : ∀ m, m ≤ 8 → 0 ≤ sm (fun s => cz O s (v + 1)) m ∧ sm (fun s => cz O s (v + 1)) m ≤ ((v + 1 : Nat) : Int) * m := fun m hm => sm_bd m (fun s _ => cz_bd O s (v + 1))
    have hc8 := hcz n hn8
    have hcn : ((v + 1 : Nat) : Int) * (n : Int) ≤ 41 * 8 := by
      have : (v + 1) * n ≤ 41 * 8 := Nat.mul_le_mul (by omega) hn8
      exact_mod_cast this
    refine Ret_bind (P := fun r => r.1 = sm (fun s => cz O s (v + 1) + fz O v en s) n ∧ FrQ S r.2) (Ret_lp (fun i q => q.1 = sm (fun s => cz O s (v + 1)) n + sm (fun s => fz O v en s) i ∧ q.2.1 = (i : Int) ∧ FrQ S q.2.2 ∧ ∃ A B, q.2.2.1 245 = rg 8 A ∧ q.2.2.1 247 = rg 8 B ∧ (∀ s, s < n → i ≤ s → A s = nxS O s (v + 1) ∧ B s = bgS O s (v + 1))) n (by omega) ⟨?_, rfl, fr, A, B, hA, hB, fun s h1 _ => hAB s h1⟩ (fun i q hi hI => ?_) (fun q hI => ?_)) (fun r hr => Ret_some hr)
    · show sm (fun s => cz O s (v + 1)) n = sm (fun s => cz O s (v + 1)) n + 0
      omega
    · obtain ⟨t, z, S3⟩ := q
      obtain ⟨rfl, rfl, fr3, A', B', hA', hB', k1⟩ := hI
      dsimp only at *
      have hC3 := Core_fr h fr3 (FrR_refl O)
      rw [pl_count hC3.1.1.1, if_pos (by omega)]
      obtain ⟨S4, e4, a1, a2, a3, a4⟩ := cl_stretch (s := i) (by omega) hA' hB' (-2) en
      rw [e4]
      dsimp only
      obtain ⟨j1, j2⟩ := k1 i hi (Nat.le_refl _)
      have hd : (if (-2 : Int) = A' i then (0 : Int) else if A' i = -2 ∨ ¬ B' i < en then 0 else 1) = fz O v en i := by
        rw [j1, j2]
        unfold fz
        by_cases q : nxS O i (v + 1) = -2
        · rw [if_pos q.symm, if_pos q]
        · rw [if_neg (fun w => q w.symm), if_neg q]
          by_cases q2 : bgS O i (v + 1) < en
          · rw [if_neg (fun w => w.elim q (fun y => y q2)), if_neg (fun w => w q2)]
          · rw [if_pos (Or.inr q2), if_pos q2]
      have hdb : ∀ m, m ≤ 8 → 0 ≤ sm (fun s => fz O v en s) m ∧ sm (fun s => fz O v en s) m ≤ 1 * m := fun m hm => sm_bd m (fun s _ => fz01 O v en s)
      have hd1 := hdb i (by omega)
      have hd2 := fz01 O v en i
      rw [hd, wr_id (z := sm (fun s => cz O s (v + 1)) n + sm (fun s => fz O v en s) i + fz O v en i) (by omega) (by omega), wr_id (by omega) (by omega)]
      refine Ret_some ⟨_, rfl, ?_, by simp, FrQ_trans fr3 (fq2 a3 a4), _, _, a1, a2, fun s h1 h2 => ?_⟩
      · dsimp only
        rw [sm_s]
        omega
      · rw [upd_ne (by omega), upd_ne (by omega)]
        exact k1 s h1 (by omega)
    · obtain ⟨t, z, S3⟩ := q
      obtain ⟨rfl, rfl, fr3, A', B', hA', hB', k1⟩ := hI
      dsimp only at *
      have hC3 := Core_fr h fr3 (FrR_refl O)
      rw [pl_count hC3.1.1.1, if_neg (by omega)]
      exact Ret_some ⟨_, rfl, (sm_add _ _ n).symm, fr3⟩
end TRAP
