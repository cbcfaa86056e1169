/-! LEVEL 3, tt: neighbours, sight -/
def nbF (l : List Nat) (s : Nat) (d : Int) : Nat → Int
  | 0 => -1
  | c + 1 => if l.getD c 0 = s ∧ (0 ≤ (c : Int) + d ∧ (c : Int) + d < l.length) then lat (natL l) ((c : Int) + d) else nbF l s d c
theorem nbF_none {l : List Nat} {s : Nat} {d : Int} : ∀ c, (∀ i, i < c → l.getD i 0 ≠ s) → nbF l s d c = -1
  | 0, _ => rfl
  | c + 1, h => by
    unfold nbF
    rw [if_neg (fun q => h c (by omega) q.1)]
    exact nbF_none c (fun i hi => h i (by omega))
theorem nbF_bd {l : List Nat} {s : Nat} {d : Int} : ∀ c, nbF l s d c = -1 ∨ ∃ y : Nat, nbF l s d c = (y : Int) ∧ y ∈ l
  | 0 => Or.inl rfl
  | c + 1 => by
    unfold nbF
    by_cases q : l.getD c 0 = s ∧ (0 ≤ (c : Int) + d ∧ (c : Int) + d < l.length)
    · rw [if_pos q]
      right
      obtain ⟨j, hj⟩ : ∃ j : Nat, (c : Int) + d = (j : Int) := ⟨((c : Int) + d).toNat, by omega⟩
      have hjl : j < l.length := by omega
      have hg : l[j]? = some (l[j]'hjl) := by simp [hjl]
      rw [hj, lat_natL hg]
      exact ⟨_, rfl, List.getElem_mem hjl⟩
    · rw [if_neg q]
      exact nbF_bd c
section NB
variable {S : Sst} {O : Smo} {n ne slots v tp bs : Nat} {lo : Nat → Nat}
theorem rf_next (h : Core S O n ne slots lo v tp bs) {u s : Nat} (hu : u ≤ v) (hs : s < n) {d : Int} (hd : d = 1 ∨ d = -1) : Ret (f_X12_nextTo (s : Int) (u : Int) d O) (fun r => r.1 = (if s ∈ rowV O u then nbF (rowV O u) s d (rowV O u).length else -2) ∧ FrR O r.2) := by
  obtain ⟨c1, c2, c3, c4, c5⟩ := c_row h hu
  have hv := (c_ver h hu).1
  have hn8 := h.1.2.1.1
  unfold f_X12_nextTo
  rw [(q_set h.2 hu).2.1]
  dsimp only [Option.bind_some]
  rw [has_n (q_set h.2 hu).2.2 (show s < 8 by omega)]
  by_cases hm : s ∈ rowV O u
  · rw [bt_1.mpr ((c3 s).mp hm), if_neg (show ¬ (1 : Int) = 0 by decide), (q_place h.2 hu).2]
    dsimp only [Option.bind_some]
    rw [if_pos hm]
    obtain ⟨O1, e1, ⟨f1, f2⟩, g1, g2⟩ := rf_layRow h.1.2.2.2.2.1 h.1.2.1 hv.1 hv.2
    rw [e1]
    dsimp only [Option.bind_some]
    have g1' : O1 262 58 = ((rowV O u).length : Int) := g1
    have g2' : ∀ (i k : Nat), (rowV O u)[i]? = some k → O1 283 i = (k : Int) := g2
    have hfr : FrR O O1 := ⟨fun k a b c d e => f1 k (by simp; omega) a, fun j a b c => f2 j (by simpa using a)⟩
    generalize rowV O u = l at *
    refine Ret_bind (Ret_lp (fun c q => q = (nbF l s d c, (c : Int))) l.length (by omega) rfl (fun c q hc hI => ?_) (fun q hI => ?_) (Q := fun r => r = nbF l s d l.length)) (fun r hr => Ret_some ⟨hr, hfr⟩)
    · subst hI
      dsimp only
      have hgc : l[c]? = some (l.getD c 0) := by simp [hc]
      rw [if_pos (by rw [g1']; omega), Ln283, aget_nat (show c < 8 by omega), g2' c _ hgc, g1']
      dsimp only [Option.bind_some]
      rw [show nbF l s d (c + 1) = if l.getD c 0 = s ∧ (0 ≤ (c : Int) + d ∧ (c : Int) + d < l.length) then lat (natL l) ((c : Int) + d) else nbF l s d c from rfl]
      unfold f_X12_isIn
      rw [wr_id (z := (l.length : Int) - 1) (by omega) (by omega), wr_id (z := (c : Int) + d) (by omega) (by omega), wr_id (z := (c : Int) + 1) (by omega) (by omega)]
      by_cases q : l.getD c 0 = s ∧ (0 ≤ (c : Int) + d ∧ (c : Int) + d < l.length)
      · obtain ⟨j, hj⟩ : ∃ j : Nat, (c : Int) + d = (j : Int) := ⟨((c : Int) + d).toNat, by omega⟩
        have hjl : j < l.length := by omega
        have hgj : l[j]? = some (l[j]'hjl) := by simp [hjl]
        rw [if_pos q, if_pos (c := ((l.getD c 0 : Nat) : Int) = (s : Int) ∧ _) ⟨by rw [q.1], by rw [if_neg (by omega)]; decide⟩, hj, aget_nat (show j < 8 by omega), g2' j _ hgj, lat_natL hgj]
        exact Ret_some ⟨_, rfl, rfl⟩
      · rw [if_neg q, if_neg (c := ((l.getD c 0 : Nat) : Int) = (s : Int) ∧ _) (fun w => q ⟨by omega, by
          have w2 := w.2
          by_cases x : (c : Int) + d < 0 ∨ (l.length : Int) - 1 < (c : Int) + d
          · rw [if_pos x] at w2; exact absurd rfl w2
          · omega⟩)]
        exact Ret_some ⟨_, rfl, rfl⟩
    · subst hI
      dsimp only
      rw [if_neg (by rw [g1']; omega)]
      exact Ret_some ⟨_, rfl, rfl⟩
  · rw [bt_0.mpr (by simpa using fun q => hm ((c3 s).mpr q)), if_pos rfl, if_neg hm]
    exact Ret_some ⟨rfl, FrR_refl O⟩
/-- a neighbour put to a set -/
def orN (m : Nat) (z : Int) : Nat := if z < 0 then m else put1 m z.toNat
theorem orN_lt {m : Nat} {z : Int} (h : m < 256) (hz : z < 8) : orN m z < 256 := by
  unfold orN
  split
  · exact h
  · exact put1_lt h (by omega)
theorem cl_next {l : List Nat} {s : Nat} {d : Int} {m : Nat} (h60 : S.1 60 = natL l) (hl : l.length ≤ 8) (hnd : l.Nodup) (h8 : ∀ y ∈ l, y < 8) (hm : m < 256) (hd : d = 1 ∨ d = -1) : lp (fun (s3830 : Int × Int) =>
        if s3830.2 < f_X6_size 60 S then
          (jn (f_X6_at 60 (wr (s3830.2 + d)) S) fun (v3839 : Int) =>
          jn (
            if (f_X6_at 60 s3830.2 S = (s : Int) ∧ ¬ v3839 = (-1)) then
              (jn (zor s3830.1 (zshl 1 v3839)) fun (v3849 : Int) =>
              v3849)
            else
              (s3830.1)) fun (q3842 : Int) =>
          some (Sum.inl (q3842, wr (s3830.2 + 1))))
        else
          (some (Sum.inr s3830.1))) FU ((m : Int), 0) = some (orN m (nbF l s d l.length) : Int) := by
  have hsz : f_X6_size 60 S = (l.length : Int) := by
    unfold f_X6_size
    rw [h60, natL_len]
  refine Ret_eq (Ret_lp (fun c q => q = ((orN m (nbF l s d c) : Int), (c : Int))) l.length (by omega) rfl (fun c q hc hI => ?_) (fun q hI => ?_))
  · subst hI
    have hgc : l[c]? = some (l.getD c 0) := by simp [hc]
    dsimp only [jn]
    rw [hsz, if_pos (by omega), wr_id (z := (c : Int) + d) (by omega) (by omega), wr_id (z := (c : Int) + 1) (by omega) (by omega)]
    unfold f_X6_at
    rw [h60, lat_natL hgc]
    refine Ret_some ⟨_, rfl, ?_⟩
    rw [show nbF l s d (c + 1) = if l.getD c 0 = s ∧ (0 ≤ (c : Int) + d ∧ (c : Int) + d < l.length) then lat (natL l) ((c : Int) + d) else nbF l s d c from rfl]
    by_cases q : l.getD c 0 = s ∧ (0 ≤ (c : Int) + d ∧ (c : Int) + d < l.length)
    · obtain ⟨j, hj⟩ : ∃ j : Nat, (c : Int) + d = (j : Int) := ⟨((c : Int) + d).toNat, by omega⟩
      have hjl : j < l.length := by omega
      have hgj : l[j]? = some (l[j]'hjl) := by simp [hjl]
      have hy8 := h8 _ (List.getElem_mem hjl)
      have hnone : nbF l s d c = -1 := nbF_none c (fun i hi e => by
        have i1 : i < l.length := by omega
        have e1 : l[i]'i1 = l[c]'hc := by
          have a1 : l.getD i 0 = l[i]'i1 := by simp [i1]
          have a2 : l.getD c 0 = l[c]'hc := by simp [hc]
          rw [← a1, ← a2, e, q.1]
        exact (List.pairwise_iff_getElem.mp hnd) i c i1 hc hi e1)
      rw [if_pos q, hnone, hj, lat_natL hgj, if_pos (c := _ ∧ _) ⟨by rw [q.1], by omega⟩]
      rw [show orN m (-1) = m from rfl, or_n hm hy8]
      have : orN m ((l[j]'hjl : Nat) : Int) = put1 m (l[j]'hjl) := by
        unfold orN
        rw [if_neg (by omega), Int.toNat_natCast]
      rw [this]
      simp
    · rw [if_neg q]
      rw [if_neg (c := _ ∧ _) (fun w => q ⟨by omega, by
        have w2 := w.2
        by_cases x : (c : Int) + d < 0 ∨ (l.length : Int) ≤ (c : Int) + d
        · exact absurd (lat_len (by rw [natL_len]; exact x)) w2
        · omega⟩)]
      simp
  · subst hI
    dsimp only
    rw [hsz, if_neg (by omega)]
    exact Ret_some ⟨_, rfl, rfl⟩
theorem op_sight {S : Sst} {O : Smo} (h : Inv S O) (z a : Int) : Op2 (f_X11_sight z a S) (f_X12_sight z a O) := by
  have hI := h
  obtain ⟨n, ne, slots, lo, v, tp, bs, h1, h2, h3, h4, h5, h6, h7, h8⟩ := h
  have hC : Core S O n ne slots lo v tp bs := ⟨h4, h5⟩
  have hn8 := h4.2.1.1
  have hh := h5.2.2.2.1
  unfold f_X11_sight f_X12_sight f_X8_neighbours
  rw [pl_has h4.1.1, rf_isSeg h4.2.2.2.2.1 hn8]
  by_cases c : (0 ≤ z ∧ z < n) ∧ (0 ≤ a ∧ a ≤ 1)
  · obtain ⟨s, rfl⟩ : ∃ s : Nat, z = (s : Int) := ⟨z.toNat, by omega⟩
    have hs : s < n := by omega
    rw [if_pos c.1, if_neg (c := ((1 : Int) = 0 ∨ a < 0) ∨ 1 < a) (by omega), if_neg (c := (1 : Int) = 0 ∨ _) (by unfold f_X12_isIn; rw [if_neg (by omega)]; omega)]
    dsimp only [jn]
    have hd : (if a = 0 then (1 : Int) else -1) = 1 ∨ (if a = 0 then (1 : Int) else -1) = -1 := by
      split
      · exact Or.inl rfl
      · exact Or.inr rfl
    generalize (if a = 0 then (1 : Int) else -1) = d at *
    have key : ∃ r q, lp (fun (s3819 : Int × Int × Sst) =>
    if f_X7_newest 74 s3819.2.2 < s3819.2.1 then
      (some (Sum.inr (s3819.1, s3819.2.2)))
    else
      (Option.bind (f_X8_show s3819.2.1 s3819.2.2) fun (q3828 : Sst) =>
      Option.bind (lp (fun (s3830 : Int × Int) =>
        if s3830.2 < f_X6_size 60 q3828 then
          (jn (f_X6_at 60 (wr (s3830.2 + d)) q3828) fun (v3839 : Int) =>
          jn (
            if (f_X6_at 60 s3830.2 q3828 = (s : Int) ∧ ¬ v3839 = (-1)) then
              (jn (zor s3830.1 (zshl 1 v3839)) fun (v3849 : Int) =>
              v3849)
            else
              (s3830.1)) fun (q3842 : Int) =>
          some (Sum.inl (q3842, wr (s3830.2 + 1))))
        else
          (some (Sum.inr s3830.1))) FU (s3819.1, 0)) fun (r3853 : Int) =>
      some (Sum.inl (r3853, wr (s3819.2.1 + 1), q3828)))) FU (0, 0, S) = some r ∧ lp (fun (s9646 : Int × Int × Smo) =>
      if s9646.2.2 262 47 < s9646.2.1 then
        (some (Sum.inr (s9646.1, s9646.2.2)))
      else
        (Option.bind (f_X12_nextTo (s : Int) s9646.2.1 d s9646.2.2) fun (q9660 : Int × Smo) =>
        jn (
          if q9660.1 < 0 then
            (0)
          else
            (zshl 1 q9660.1)) fun (q9662 : Int) =>
        jn (zor s9646.1 q9662) fun (v9667 : Int) =>
        some (Sum.inl (v9667, wr (s9646.2.1 + 1), q9660.2)))) FU (0, 0, O) = some q ∧ (fun (r : Int × Sst) (q : Int × Smo) => r.1 = q.1 ∧ FrQ S r.2 ∧ FrR O q.2) r q := by
      refine lp_i2 (fun (c : Nat) (s : Int × Int × Sst) (t : Int × Int × Smo) => ∃ m : Nat, m < 256 ∧ s.1 = (m : Int) ∧ t.1 = (m : Int) ∧ s.2.1 = (c : Int) ∧ t.2.1 = (c : Int) ∧ FrQ S s.2.2 ∧ FrR O t.2.2) (fun (r : Int × Sst) (q : Int × Smo) => r.1 = q.1 ∧ FrQ S r.2 ∧ FrR O q.2) (v + 1) (by omega) (fun c s' t hc hI => ?_) (fun s' t hI => ?_) ⟨0, by decide, rfl, rfl, rfl, rfl, FrQ_refl S, FrR_refl O⟩
      · obtain ⟨x, y, S1⟩ := s'
        obtain ⟨x', y', O1⟩ := t
        obtain ⟨m, hm, rfl, rfl, rfl, rfl, q1, q2⟩ := hI
        dsimp only [jn] at *
        have hC1 := Core_fr hC q1 q2
        obtain ⟨S2, e2, f2, t2⟩ := q_show hC1 (show c ≤ v by omega)
        obtain ⟨⟨x1, O2⟩, e3, hx1, f3⟩ := rf_next hC1 (show c ≤ v by omega) hs hd
        obtain ⟨c1, c2, c3, c4, c5⟩ := c_row hC1 (show c ≤ v by omega)
        have hin := cl_next (s := s) (d := d) t2.1 c2 c1 (fun y hy => by have := c4 y hy; omega) hm hd
        dsimp only [jn] at hin hx1 f3
        rw [q_new hC1.2, if_neg (c := (v : Int) < (c : Int)) (by omega), if_neg (c := O1 262 47 < (c : Int)) (by rw [hC1.2.1]; omega), e2, e3]
        dsimp only [Option.bind_some]
        rw [hin]
        dsimp only [Option.bind_some]
        rw [wr_id (by omega) (by omega)]
        have hnb := nbF_bd (l := rowV O1 c) (s := s) (d := d) (rowV O1 c).length
        have hlt : orN m (nbF (rowV O1 c) s d (rowV O1 c).length) < 256 := orN_lt hm (by
          rcases hnb with e | ⟨y, e, hy⟩
          · omega
          · have := c4 y hy; omega)
        have hrf : zor (m : Int) (if x1 < 0 then 0 else zshl 1 x1) = (orN m (nbF (rowV O1 c) s d (rowV O1 c).length) : Int) := by
          by_cases hmem : s ∈ rowV O1 c
          · rw [if_pos hmem] at hx1
            rw [hx1]
            rcases hnb with e | ⟨y, e, hy⟩
            · rw [e, if_pos (by decide), zor_0 hm]; rfl
            · rw [e, if_neg (by omega), or_n hm (by have := c4 y hy; omega)]
              unfold orN
              rw [if_neg (by omega), Int.toNat_natCast]
          · rw [if_neg hmem] at hx1
            have hz := nbF_none (l := rowV O1 c) (s := s) (d := d) (rowV O1 c).length (fun i hi e => hmem (by
              rw [← e]
              have : (rowV O1 c).getD i 0 = (rowV O1 c)[i]'hi := by simp [hi]
              rw [this]
              exact List.getElem_mem hi))
            rw [hx1, if_pos (by decide), zor_0 hm, hz]; rfl
        rw [hrf]
        exact ⟨_, _, rfl, rfl, _, hlt, rfl, rfl, by simp, by simp, FrQ_trans q1 f2, FrR_trans q2 f3⟩
      · obtain ⟨x, y, S1⟩ := s'
        obtain ⟨x', y', O1⟩ := t
        obtain ⟨m, hm, rfl, rfl, rfl, rfl, q1, q2⟩ := hI
        dsimp only [jn] at *
        have hC1 := Core_fr hC q1 q2
        rw [q_new hC1.2, if_pos (c := (v : Int) < ((v + 1 : Nat) : Int)) (by omega), if_pos (c := O1 262 47 < ((v + 1 : Nat) : Int)) (by rw [hC1.2.1]; omega)]
        exact ⟨_, _, rfl, rfl, rfl, q1, q2⟩
    obtain ⟨r, q, e1, e2, k1, k2, k3⟩ := key
    dsimp only [jn] at e1 e2
    rw [e1, e2]
    dsimp only [Option.bind_some]
    rw [k1]
    exact ⟨_, _, _, rfl, rfl, Inv_fr hI k2 k3⟩
  · have e : ((if 0 ≤ z ∧ z < n then (1 : Int) else 0) = 0 ∨ a < 0) ∨ 1 < a := by
      by_cases q : 0 ≤ z ∧ z < n
      · rw [if_pos q]; omega
      · rw [if_neg q]; omega
    have e' : ((if 0 ≤ z ∧ z < n then (1 : Int) else 0) = 0 ∨ f_X12_isIn a 0 1 = 0) := by
      by_cases q : 0 ≤ z ∧ z < n
      · right
        unfold f_X12_isIn
        rw [if_pos (by omega)]
      · exact Or.inl (if_neg q)
    rw [if_pos e, if_pos e']
    exact ⟨_, _, _, rfl, rfl, hI⟩
end NB
