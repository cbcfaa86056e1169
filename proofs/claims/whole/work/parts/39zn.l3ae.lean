/-! LEVEL 3, ae: law -/
theorem lat_app {l : List Int} {a : Int} {k : Nat} (h : l.length = k) : lat (l ++ [a]) (k : Int) = a := by
  rw [show (k : Int) = ((l ++ [a]).length : Int) - 1 by rw [List.length_append, h]; simp]
  exact lat_last l a
section LAW
variable {S : Sst} {O : Smo} {n ne slots v tp bs : Nat} {lo : Nat → Nat}
/-- what holds of the trial store and of the counters when c versions stand -/
def LwI (O : Smo) (n sl c : Nat) (D : Dt) (S1 : Sst) (O1 : Smo) : Prop := RepD 107 S1 D ∧ D.1 ≤ 8 * c ∧ (∀ L R, FI D c (mA (O 282) c) n sl L R [] [] 0 D) ∧ (∀ j, j < 6 → (S1.1 (107 + 1 + 2 * j)).length = c + 1) ∧ f_X6_at 110 (c : Int) S1 = (mA (O 282) c : Int) ∧ (∀ k, k < D.1 → 0 ≤ D.2 5 k ∧ D.2 5 k ≤ 1) ∧ ∀ L R, SimI O1 D c (mA (O 282) c) L R []
theorem rdD_clD (m : Nat) (D : Dt) (k : Nat) (sd a : Int) : rdD (clD m D) k sd a = rdD D k sd a := by
  unfold rdD
  rw [clD_u]
  exact rdC_congr (clD_o m D 2 k (by decide)) (clD_o m D 3 k (by decide)) _ (fun i _ => ⟨clD_o m D 6 _ (by decide), clD_o m D 7 _ (by decide), clD_o m D 8 _ (by decide)⟩)
theorem law_in (h : Core S O n ne slots lo v tp bs) {c sl : Nat} (hc : c + 1 ≤ v) (hsl : sl ≤ 6) {D : Dt} {O1 : Smo} (hF : ∀ L R, FI D c (mA (O 282) c) n sl L R [] [] 0 D) (hN : D.1 ≤ 8 * c) (hS : ∀ L R, SimI O1 D c (mA (O 282) c) L R []) (hR : FrR O O1) (hT : rfTree O1 (O 280) (rowV O (c + 1))) (h01 : ∀ k, k < D.1 → 0 ≤ D.2 5 k ∧ D.2 5 k ≤ 1) :
    Ret (lp (fun (s9297 : Int × Int × Smo) =>
          if s9297.2.1 < s9297.2.2 262 58 then
            (Option.bind (aget (s9297.2.2 288) (Ln 288) s9297.2.1) fun (v9305 : Int) =>
            Option.bind (f_X12_setOf (wr (((c + 1 : Nat) : Int) - 1)) s9297.2.2) fun (q9308 : Int) =>
            Option.bind (aget (s9297.2.2 288) (Ln 288) s9297.2.1) fun (v9310 : Int) =>
            Option.bind (f_X12_isSimCopied v9305 (f_X12_has q9308 v9310) (sl : Int) s9297.2.2) fun (q9314 : Int × Smo) =>
            jn (wr (s9297.1 + (f_X12_truth q9314.1))) fun (v9317 : Int) =>
            some (Sum.inl (v9317, wr (s9297.2.1 + 1), q9314.2)))
          else
            (some (Sum.inr (s9297.1, s9297.2.2)))) FU (sm (fun k => D.2 5 k) D.1, 0, O1)) (fun r => ∀ Dn, Dn = (fdD sl c (mA (O 282) c) (tL (O 280) (rowV O (c + 1))) (tR (O 280) (rowV O (c + 1))) (0, D) (post8 (tL (O 280) (rowV O (c + 1))) (tR (O 280) (rowV O (c + 1))) (tRoot (O 280) (rowV O (c + 1))))).2 → r.1 = sm (fun k => Dn.2 5 k) Dn.1 ∧ FrR O r.2 ∧ Dn.1 ≤ 8 * (c + 1) ∧ (∀ L R, FI (clD (mA (O 282) (c + 1)) Dn) (c + 1) (mA (O 282) (c + 1)) n sl L R [] [] 0 (clD (mA (O 282) (c + 1)) Dn)) ∧ (∀ k, k < Dn.1 → 0 ≤ Dn.2 5 k ∧ Dn.2 5 k ≤ 1) ∧ ∀ L R, SimI r.2 (clD (mA (O 282) (c + 1)) Dn) (c + 1) (mA (O 282) (c + 1)) L R []) := by
  obtain ⟨c1, c2, c3, c4, c5⟩ := c_row h hc
  have hn8 := h.1.2.1.1
  have hv40 : v ≤ 40 := by have := h.2.2.2.2.1; omega
  have hpp := post8_perm c2 c5
  have hC := post8_C _ _ _ [] (Nat.le_refl _) c2 c5
  have hpn : (post8 (tL (O 280) (rowV O (c + 1))) (tR (O 280) (rowV O (c + 1))) (tRoot (O 280) (rowV O (c + 1)))).Nodup := hpp.nodup_iff.mpr c1
  have hpl := hpp.length_eq
  have hpm : ∀ y ∈ post8 (tL (O 280) (rowV O (c + 1))) (tR (O 280) (rowV O (c + 1))) (tRoot (O 280) (rowV O (c + 1))), y < n := fun y hy => c4 y (hpp.mem_iff.mp hy)
  have hpb : ∀ y, (mA (O 282) (c + 1)).testBit y = true → y ∈ post8 (tL (O 280) (rowV O (c + 1))) (tR (O 280) (rowV O (c + 1))) (tRoot (O 280) (rowV O (c + 1))) := fun y hy => hpp.mem_iff.mpr ((c3 y).mpr hy)
  obtain ⟨t58, t283, t284, t59, t289, t288, _⟩ := hT
  have hch : ∀ y ∈ post8 (tL (O 280) (rowV O (c + 1))) (tR (O 280) (rowV O (c + 1))) (tRoot (O 280) (rowV O (c + 1))), O1 284 y = tL (O 280) (rowV O (c + 1)) y ∧ O1 285 y = tR (O 280) (rowV O (c + 1)) y := fun y hy => t284 y (hpp.mem_iff.mp hy)
  have hFt := FI_take (slots := sl) (n := n) hC hpn hpm hsl (hF (tL (O 280) (rowV O (c + 1))) (tR (O 280) (rowV O (c + 1))))
  generalize hL : tL (O 280) (rowV O (c + 1)) = L at *
  generalize hRr : tR (O 280) (rowV O (c + 1)) = R at *
  generalize hpo : post8 L R (tRoot (O 280) (rowV O (c + 1))) = po at *
  generalize hm : mA (O 282) c = m at *
  have hset : ∀ O2 : Smo, FrR O O2 → f_X12_setOf (wr (((c + 1 : Nat) : Int) - 1)) O2 = some (m : Int) := fun O2 f => by
    rw [wr_id (by omega) (by omega), show ((c + 1 : Nat) : Int) - 1 = (c : Int) by omega, (q_set (Core_fr h (FrQ_refl S) f).2 (show c ≤ v by omega)).2.1, FrR_282 f, hm]
  have hm8 : m < 256 := by rw [← hm]; exact (q_set h.2 (show c ≤ v by omega)).2.2
  have hlen : ∀ i, (fdD sl c m L R (0, D) (po.take i)).2.1 ≤ D.1 + i := fun i => by
    have a := FI_N sl c m L R (0, D) (po.take i)
    have b : (po.take i).length ≤ i := by rw [List.length_take]; omega
    dsimp only at a
    omega
  have hsmb : ∀ i, i ≤ po.length → 0 ≤ sm (fun k => (fdD sl c m L R (0, D) (po.take i)).2.2 5 k) (fdD sl c m L R (0, D) (po.take i)).2.1 ∧ sm (fun k => (fdD sl c m L R (0, D) (po.take i)).2.2 5 k) (fdD sl c m L R (0, D) (po.take i)).2.1 ≤ 1 * ((fdD sl c m L R (0, D) (po.take i)).2.1 : Int) ∧ ∀ k, k < (fdD sl c m L R (0, D) (po.take i)).2.1 → 0 ≤ (fdD sl c m L R (0, D) (po.take i)).2.2 5 k ∧ (fdD sl c m L R (0, D) (po.take i)).2.2 5 k ≤ 1 := fun i hi => by
    have hFi := hFt i hi
    have hb : ∀ k, k < (fdD sl c m L R (0, D) (po.take i)).2.1 → 0 ≤ (fdD sl c m L R (0, D) (po.take i)).2.2 5 k ∧ (fdD sl c m L R (0, D) (po.take i)).2.2 5 k ≤ 1 := fun k hk => by
      by_cases q : k < D.1
      · rw [hFi.1.2 5 k q (Or.inr rfl)]
        exact h01 k q
      · obtain ⟨s, hs, hs2⟩ := hFi.2.2.1 k hk
        rw [((hFi.2.2.2.2.2.1 k hk).1 (by omega)).2 s hs2]
        rcases bt01 m s with e | e <;> omega
    have := sm_bd (f := fun k => (fdD sl c m L R (0, D) (po.take i)).2.2 5 k) (b := 1) _ hb
    exact ⟨this.1, this.2, hb⟩
  refine Ret_lp (fun i q => i ≤ po.length ∧ q.1 = sm (fun k => (fdD sl c m L R (0, D) (po.take i)).2.2 5 k) (fdD sl c m L R (0, D) (po.take i)).2.1 ∧ q.2.1 = (i : Int) ∧ SimI q.2.2 (fdD sl c m L R (0, D) (po.take i)).2 c m L R (po.take i) ∧ (∀ k, k ≠ 262 → ¬ (293 ≤ k ∧ k ≤ 296) → q.2.2 k = O1 k) ∧ ∀ j, j ≠ 67 → q.2.2 262 j = O1 262 j) po.length (by omega) ⟨by omega, rfl, rfl, hS L R, fun _ _ _ => rfl, fun _ _ => rfl⟩ (fun i q hi hI => ?_) (fun q hI => ?_)
  · obtain ⟨t, z, O2⟩ := q
    obtain ⟨_, rfl, rfl, i1, i2, i3⟩ := hI
    dsimp only [jn] at *
    have hil : i < po.length := hi
    have hs : po[i]? = some (po[i]'hil) := by simp [hil]
    have hmem : po[i]'hil ∈ po := List.getElem_mem hil
    have hsn := hpm _ hmem
    have htk : po.take (i + 1) = po.take i ++ [po[i]'hil] := List.take_succ_eq_append_getElem hil
    have hns : po[i]'hil ∉ po.take i := fun q => by
      obtain ⟨j, hj, hjy⟩ := take_mem q
      have := nodup_at hpn hjy hs
      omega
    obtain ⟨a, b⟩ := postC_at po [] i _ hC hs
    rw [List.nil_append] at a b
    have hfo : FrR O O2 := FrR_trans hR ⟨fun k x1 x2 x3 x4 x5 => i2 k x1 (by omega), fun j x1 x2 x3 => i3 j x3⟩
    have h288 : O2 288 i = ((po[i]'hil : Nat) : Int) := by rw [i2 288 (by decide) (by omega)]; exact t288 i _ hs
    have hFi := hFt i (by omega)
    have hle := hlen i
    have hb := hsmb i (by omega)
    rw [if_pos (c := (i : Int) < O2 262 58) (by rw [i3 58 (by decide), t58]; omega), Ln288, aget_nat (show i < 8 by omega), h288]
    dsimp only [Option.bind_some]
    rw [hset O2 hfo]
    dsimp only [Option.bind_some]
    rw [has_n hm8 (by omega)]
    have hL1 : ∀ y ∈ po.take i, (L y = -1 ∨ ∃ z : Nat, L y = (z : Int)) ∧ (R y = -1 ∨ ∃ z : Nat, R y = (z : Int)) := fun y hy => by
      obtain ⟨j, hj, hjy⟩ := take_mem hy
      obtain ⟨a', b'⟩ := postC_at po [] j _ hC hjy
      exact ⟨a'.imp id (fun ⟨z, e, _⟩ => ⟨z, e⟩), b'.imp id (fun ⟨z, e, _⟩ => ⟨z, e⟩)⟩
    obtain ⟨⟨r1, O3⟩, e3, k1, k2, k3, k4, k5⟩ := rf_sim i1 hFi (by omega) hsl (show po[i]'hil < 8 by omega) hns (by rw [i2 284 (by decide) (by omega)]; exact (hch _ hmem).1) (by rw [i2 285 (by decide) (by omega)]; exact (hch _ hmem).2) (clo_take hC i) a b hL1 (fun y hy => by have := hpm y (List.mem_of_mem_take hy); omega)
    dsimp only at k1 k2 k3 k4 k5
    rw [e3]
    dsimp only [Option.bind_some]
    have ht : f_X12_truth r1 = r1 := by
      rcases k2 with e | e <;> rw [e] <;> rfl
    rw [ht, wr_id (z := (i : Int) + 1) (by omega) (by omega), wr_id (by omega) (by omega)]
    refine Ret_some ⟨_, rfl, by omega, ?_, by simp, ?_, fun k x1 x2 => by dsimp only; rw [k4 k x1 x2, i2 k x1 x2], fun j x1 => by dsimp only; rw [k5 j x1, i3 j x1]⟩
    · dsimp only
      rw [htk, fdD_1]
      exact k3.symm
    · dsimp only
      rw [htk, fdD_1]
      obtain ⟨g1, g2, g3⟩ := k1
      refine ⟨g1, fun y hy => g2 y ((List.mem_append.mp hy).elim (fun w => List.mem_cons_of_mem _ w) (fun w => by rw [List.mem_singleton.mp w]; exact List.mem_cons_self)), fun y hy hyd => g3 y hy (fun w => hyd ((List.mem_cons.mp w).elim (fun e => List.mem_append.mpr (Or.inr (List.mem_singleton.mpr e))) (fun e => List.mem_append.mpr (Or.inl e))))⟩
  · obtain ⟨t, z, O2⟩ := q
    obtain ⟨_, rfl, rfl, i1, i2, i3⟩ := hI
    dsimp only [jn] at *
    have hfo : FrR O O2 := FrR_trans hR ⟨fun k x1 x2 x3 x4 x5 => i2 k x1 (by omega), fun j x1 x2 x3 => i3 j x3⟩
    rw [if_neg (c := ((po.length : Nat) : Int) < O2 262 58) (by rw [i3 58 (by decide), t58]; omega)]
    refine Ret_some ⟨_, rfl, fun Dn hDn => ?_⟩
    have hFn := hFt po.length (Nat.le_refl _)
    have hbn := hsmb po.length (Nat.le_refl _)
    have hle := hlen po.length
    rw [List.take_length] at hFn hbn i1 hle ⊢
    rw [← hDn] at hFn hbn i1 hle ⊢
    refine ⟨rfl, hfo, by omega, fun L' R' => FI_next hFn hpb L' R', hbn.2.2, fun L' R' => ⟨i1.1, fun y hy => (by cases hy), fun y hy _ => ?_⟩⟩
    have hyp := hpb y hy
    obtain ⟨j1, j2, j3, j4⟩ := i1.2.1 y hyp
    obtain ⟨f1, f2⟩ := hFn.2.2.2.2.2.2.2.1 y hyp
    have h9 : (clD (mA (O 282) (c + 1)) Dn).2 9 y = Dn.2 9 y := by rw [clD_9, if_neg (by rw [hy]; decide)]
    dsimp only
    rw [h9, rdD_clD, rdD_clD, clD_u, show ((c + 1 : Nat) : Int) = (c : Int) + 1 by omega, f1, f2]
    exact ⟨j1, j2, j3, j4⟩
theorem cl_copies107 {D : Dt} (h : RepD 107 S D) (hN : D.1 ≤ 320) (h01 : ∀ k, k < D.1 → 0 ≤ D.2 5 k ∧ D.2 5 k ≤ 1) : f_X7_copiesOf 107 (-1) S = some (sm (fun k => D.2 5 k) D.1) := by
  have hsz : f_X6_size (107 + 13) S = (D.1 : Int) := size_rg (h.1 0 (by decide))
  have hb : ∀ c, c ≤ D.1 → 0 ≤ sm (fun k => D.2 5 k) c ∧ sm (fun k => D.2 5 k) c ≤ 1 * (c : Int) := fun c hc => sm_bd c (fun k hk => h01 k (by omega))
  unfold f_X7_copiesOf
  refine Ret_eq (Ret_bind (P := fun r => r = sm (fun k => D.2 5 k) D.1) (Ret_lp (fun c q => q = (sm (fun k => D.2 5 k) c, (c : Int))) D.1 (by omega) rfl (fun c q hc hI => ?_) (fun q hI => ?_)) (fun r hr => Ret_some hr))
  · subst hI
    dsimp only [jn]
    have b1 := hb c (by omega)
    have b2 := h01 c hc
    rw [hsz, if_pos (by omega), if_pos (Or.inl rfl), show (107 + 23 : Nat) = 107 + 13 + 2 * 5 by rfl, at_nat (h.1 5 (by decide)) hc, wr_id (by omega) (by omega), wr_id (by omega) (by omega)]
    exact Ret_some ⟨_, rfl, by rw [sm_s]; simp⟩
  · subst hI
    dsimp only
    rw [hsz, if_neg (by omega)]
    exact Ret_some ⟨_, rfl, rfl⟩
theorem op_law {S : Sst} {O : Smo} (h : Inv S O) (a : Int) : Op2 (f_X11_law a S) (f_X12_law a O) := by
  have hI := h
  obtain ⟨n, ne, slots, lo, v, tp, bs, h1, h2, h3, h4, h5, h6, h7, h8⟩ := h
  have hC : Core S O n ne slots lo v tp bs := ⟨h4, h5⟩
  have hn8 := h4.2.1.1
  have hv40 : v ≤ 40 := by have := h5.2.2.2.1; omega
  unfold f_X11_law f_X12_law f_X12_isIn
  by_cases ha : a < 1 ∨ 6 < a
  · rw [if_pos ha, if_pos ha, if_pos rfl]
    exact ⟨_, _, _, rfl, rfl, hI⟩
  · obtain ⟨sl, rfl⟩ : ∃ sl : Nat, a = (sl : Int) := ⟨a.toNat, by omega⟩
    rw [if_neg ha, if_neg ha, if_neg (show ¬ (1 : Int) = 0 by decide)]
    dsimp only [jn]
    obtain ⟨r1, r2, r3, r4⟩ := cl_restart (p := 107) (by unfold stP; omega) S
    generalize f_X7_restart 107 S = S0 at *
    have fS0 : FrQ S S0 := ⟨fun k _ x _ _ => r3 k (by omega), fun k j _ _ => by rw [r4]⟩
    have fO0 : FrR O (up2 O 262 67 0) := ⟨fun k x _ _ _ _ => up2_row x, fun j _ _ x => up2_ne (Or.inr x)⟩
    have key : ∃ r q, lp (fun (s3531 : Int × Sst) =>
      if f_X7_newest 74 s3531.2 < s3531.1 then
        (some (Sum.inr s3531.2))
      else
        (Option.bind (f_X8_show s3531.1 s3531.2) fun (q3540 : Sst) =>
        Option.bind (f_X7_grow 107 (f_X6_at 75 s3531.1 q3540) (f_X6_at 77 s3531.1 q3540) 0 0 (sl : Int) q3540) fun (q3545 : Sst) =>
        some (Sum.inl (wr (s3531.1 + 1), q3545)))) FU (1, S0) = some r ∧ lp (fun (s9286 : Int × Int × Smo) =>
      if s9286.2.2 262 47 < s9286.2.1 then
        (some (Sum.inr (s9286.1, s9286.2.2)))
      else
        (Option.bind (f_X12_layTree s9286.2.1 s9286.2.2) fun (q9295 : Smo) =>
        Option.bind (lp (fun (s9297 : Int × Int × Smo) =>
          if s9297.2.1 < s9297.2.2 262 58 then
            (Option.bind (aget (s9297.2.2 288) (Ln 288) s9297.2.1) fun (v9305 : Int) =>
            Option.bind (f_X12_setOf (wr (s9286.2.1 - 1)) s9297.2.2) fun (q9308 : Int) =>
            Option.bind (aget (s9297.2.2 288) (Ln 288) s9297.2.1) fun (v9310 : Int) =>
            Option.bind (f_X12_isSimCopied v9305 (f_X12_has q9308 v9310) (sl : Int) s9297.2.2) fun (q9314 : Int × Smo) =>
            jn (wr (s9297.1 + (f_X12_truth q9314.1))) fun (v9317 : Int) =>
            some (Sum.inl (v9317, wr (s9297.2.1 + 1), q9314.2)))
          else
            (some (Sum.inr (s9297.1, s9297.2.2)))) FU (s9286.1, 0, q9295)) fun (r9319 : Int × Smo) =>
        some (Sum.inl (r9319.1, wr (s9286.2.1 + 1), r9319.2)))) FU (0, 1, up2 O 262 67 0) = some q ∧ (fun (r : Sst) (q : Int × Smo) => FrQ S r ∧ FrR O q.2 ∧ ∃ D, RepD 107 r D ∧ D.1 ≤ 320 ∧ (∀ k, k < D.1 → 0 ≤ D.2 5 k ∧ D.2 5 k ≤ 1) ∧ q.1 = sm (fun k => D.2 5 k) D.1) r q := by
      refine lp_i2 (fun (c : Nat) (s : Int × Sst) (t : Int × Int × Smo) => c ≤ v ∧ s.1 = ((c + 1 : Nat) : Int) ∧ t.2.1 = ((c + 1 : Nat) : Int) ∧ FrQ S s.2 ∧ FrR O t.2.2 ∧ ∃ D, t.1 = sm (fun k => D.2 5 k) D.1 ∧ LwI O n sl c D s.2 t.2.2) _ v (by omega) (fun c s t hc hI => ?_) (fun s t hI => ?_) ⟨Nat.zero_le _, rfl, rfl, fS0, fO0, D00, rfl, r1, Nat.zero_le _, fun L R => ?_, fun j hj => by rw [r2 j hj]; rfl, ?_, fun k hk => absurd hk (Nat.not_lt_zero k), fun L R => ?_⟩
      · obtain ⟨x, S1⟩ := s
        obtain ⟨y, x', O1⟩ := t
        obtain ⟨_, rfl, rfl, fr, fo, D, rfl, d1, d2, d3, d4, d5, d6, d7⟩ := hI
        dsimp only at *
        have hC1 := Core_fr hC fr fo
        have hCS := Core_fr hC fr (FrR_refl O)
        have hc' : c + 1 ≤ v := by omega
        rw [q_new hC1.2, if_neg (c := (v : Int) < ((c + 1 : Nat) : Int)) (by omega), if_neg (c := O1 262 47 < ((c + 1 : Nat) : Int)) (by rw [hC1.2.1]; omega)]
        have hv := (c_ver hCS hc').1
        obtain ⟨S2, e2, fr2, T2⟩ : Ret (f_X8_show ((c + 1 : Nat) : Int) S1) (fun S2 => Fr kTree jTree S1 S2 ∧ clTree S2 (O 280) (rowV O (c + 1))) := by
          unfold f_X8_show
          rw [(q_set hCS.2 hc').1]
          exact Ret_bind (cl_build hCS.1.1.2.1 hCS.1.1.2.2.1 hCS.1.1.2.2.2.2.2 hCS.1.2.1 hv.1) (fun S2 f2 => Ret_some f2)
        have h4t := hC1.2.2.2.2.1
        obtain ⟨am, _, _⟩ := hC1.2.2.2.2.2.1.1.1 (c + 1) (by omega)
        have hv1 := (c_ver hC1 hc').1
        obtain ⟨O2, e3, fo2, T3⟩ := rf_layTree hC1.1.2.2.2.2.1 hC1.1.2.1 (show c + 1 ≤ 40 by omega) am hv1.1 hv1.2
        have T3' : rfTree O2 (O 280) (rowV O (c + 1)) := by
          have q1 : O1 280 = O 280 := FrR_o fo 280 (by decide) (by decide)
          have q2 : rowF (sgO O1) (mA (O1 282) (c + 1)) (O1 282 (c + 1)) = rowV O (c + 1) := rowV_fr fo (c + 1)
          rw [q1, q2] at T3
          exact T3
        have fo2' : FrR O1 O2 := ⟨fun k a b _ _ _ => fo2.1 k (by simp; omega) a, fun j a b _ => fo2.2 j (by simpa using ⟨a, b⟩)⟩
        have hS2 : ∀ L R, SimI O2 D c (mA (O 282) c) L R [] := fun L R => by
          have := d7 L R
          unfold SimI at *
          rw [fo2.2 67 (by decide), fo2.1 293 (by decide) (by decide), fo2.1 294 (by decide) (by decide), fo2.1 295 (by decide) (by decide), fo2.1 296 (by decide) (by decide)]
          exact this
        obtain ⟨⟨y3, O3⟩, e4, hr⟩ := law_in hC hc' (show sl ≤ 6 by omega) d3 d2 hS2 (FrR_trans fo fo2') T3' d6
        have hk2 : ∀ k, 75 ≤ k → S2.1 k = S1.1 k := fun k hk => fr2.1 k (by simp [kTree]; omega)
        have hRep : RepD 107 S2 D := by
          refine ⟨fun j hj => by rw [hk2 _ (by omega)]; exact d1.1 j hj, fun j hj => ?_, by rw [hk2 _ (by omega)]; exact d1.2.2⟩
          rw [hk2 _ (by omega)]
          exact d1.2.1 j hj
        have hat : ∀ z, f_X6_at 110 z S2 = f_X6_at 110 z S1 := fun z => by unfold f_X6_at; rw [hk2 110 (by decide)]
        obtain ⟨g1, g2, g3, g4, _⟩ := c_row hC hc'
        have hC2 := Core_fr hCS (S' := S2) ⟨fun k a b c d => fr2.1 k (by simp [kTree]; omega), fun k j a b => fr2.2 k j (by simp [jTree]; omega)⟩ (FrR_refl O)
        obtain ⟨S3, e5, w1, w2, w3, w4, w5, w6, w7, w8, w9⟩ := cl_grow (p := 107) (n := n) (slots := sl) (m' := mA (O 282) (c + 1)) (O 282 (c + 1)) 0 0 (by unfold stP; omega) hRep T2 g1 g4 hn8 g2 (d3 _ _) (by omega) (show sl ≤ 6 by omega) (fun j hj => by rw [hk2 _ (by omega)]; exact d4 j hj) (show c < 40 by omega) (by rw [show (107 + 3 : Nat) = 110 from rfl, hat]; exact d5) (q_set hC.2 (show c ≤ v by omega)).2.2 (q_set hC.2 hc').2.2
        obtain ⟨j1, j2, j3, j4, j5, j6⟩ := hr _ rfl
        dsimp only at j1 j2 j3 j4 j5 j6
        generalize (fdD sl c (mA (O 282) c) (tL (O 280) (rowV O (c + 1))) (tR (O 280) (rowV O (c + 1))) (0, D) (post8 (tL (O 280) (rowV O (c + 1))) (tR (O 280) (rowV O (c + 1))) (tRoot (O 280) (rowV O (c + 1))))).2 = Dn at j1 j3 j4 j5 j6 w1 w6
        have j1' : y3 = sm (fun k => (clD (mA (O 282) (c + 1)) Dn).2 5 k) (clD (mA (O 282) (c + 1)) Dn).1 := j1.trans (sm_ext _ (fun k _ => (clD_o (mA (O 282) (c + 1)) Dn 5 k (by decide)).symm))
        rw [e2, e3]
        dsimp only [Option.bind_some]
        rw [(q_place hC2.2 hc').1, (q_set hC2.2 hc').1, e5]
        have e4' := e4
        dsimp only [jn] at e4' ⊢
        rw [e4']
        dsimp only [Option.bind_some]
        rw [wr_id (by omega) (by omega)]
        have l10 := d4 0 (by decide)
        have l11 := d4 1 (by decide)
        have l12 := d4 2 (by decide)
        have l13 := d4 3 (by decide)
        have l14 := d4 4 (by decide)
        have l15 := d4 5 (by decide)
        refine ⟨_, _, rfl, rfl, by omega, by simp, by simp, ?_, j2, clD (mA (O 282) (c + 1)) Dn, j1', w1, j3, j4, fun j hj => ?_, ?_, fun k hk => ?_, j6⟩
        · exact FrQ_trans (FrQ_trans fr ⟨fun k a b c d => fr2.1 k (by simp [kTree]; omega), fun k j a b => fr2.2 k j (by simp [jTree]; omega)⟩) ⟨fun k _ a _ _ => w9 k (by omega), fun k j _ _ => by dsimp only; rw [w8]⟩
        · dsimp only
          obtain rfl | rfl | rfl | rfl | rfl | rfl : j = 0 ∨ j = 1 ∨ j = 2 ∨ j = 3 ∨ j = 4 ∨ j = 5 := by omega
          · rw [show S3.1 (107 + 1 + 2 * 0) = _ from w2, List.length_append, hk2 _ (by decide), show (S1.1 (107 + 1)).length = c + 1 from l10]; rfl
          · rw [show S3.1 (107 + 1 + 2 * 1) = _ from w3, List.length_append, hk2 _ (by decide), show (S1.1 (107 + 3)).length = c + 1 from l11]; rfl
          · rw [show S3.1 (107 + 1 + 2 * 2) = _ from w4, List.length_append, hk2 _ (by decide), show (S1.1 (107 + 5)).length = c + 1 from l12]; rfl
          · rw [show S3.1 (107 + 1 + 2 * 3) = _ from w5, List.length_append, hk2 _ (by decide), show (S1.1 (107 + 7)).length = c + 1 from l13]; rfl
          · rw [show S3.1 (107 + 1 + 2 * 4) = _ from w6, List.length_append, hk2 _ (by decide), show (S1.1 (107 + 9)).length = c + 1 from l14]; rfl
          · rw [show S3.1 (107 + 1 + 2 * 5) = _ from w7, List.length_append, hk2 _ (by decide), show (S1.1 (107 + 11)).length = c + 1 from l15]; rfl
        · dsimp only
          unfold f_X6_at
          rw [show S3.1 110 = _ from w3]
          rw [hk2 _ (by decide)]
          exact lat_app l11
        · have := j5 k hk
          rw [clD_o _ _ _ _ (by decide)]
          exact this
      · obtain ⟨x, S1⟩ := s
        obtain ⟨y, x', O1⟩ := t
        obtain ⟨_, rfl, rfl, fr, fo, D, rfl, d1, d2, d3, d4, d5, d6, d7⟩ := hI
        dsimp only at *
        have hC1 := Core_fr hC fr fo
        rw [q_new hC1.2, if_pos (c := (v : Int) < ((v + 1 : Nat) : Int)) (by omega), if_pos (c := O1 262 47 < ((v + 1 : Nat) : Int)) (by rw [hC1.2.1]; omega)]
        exact ⟨_, _, rfl, rfl, fr, fo, D, d1, by omega, d6, rfl⟩
      · refine ⟨⟨Nat.le_refl _, fun _ _ _ _ => rfl⟩, fun k hk => absurd hk (Nat.not_lt_zero k), fun k hk => absurd hk (Nat.not_lt_zero k), fun s hs => ?_, fun k c hk => absurd hk (Nat.not_lt_zero k), fun k hk => absurd hk (Nat.not_lt_zero k), fun k c c' hk => absurd hk (Nat.not_lt_zero k), fun s hs => (by cases hs), rfl, fun k hk => absurd hk (Nat.not_lt_zero k), fun _ _ => rfl⟩
        rcases hs with hs | hs
        · cases hs
        · exact (set0 hC hs).elim
      · have e0 : mA (O 282) 0 = 0 := by
          refine Nat.eq_of_testBit_eq (fun i => ?_)
          rw [Nat.zero_testBit]
          by_cases q : (mA (O 282) 0).testBit i = true
          · exact (set0 hC q).elim
          · simpa using q
        rw [e0]
        unfold f_X6_at
        rw [show S0.1 110 = _ from r2 1 (by decide)]
        rfl
      · refine ⟨?_, fun y hy => (by cases hy), fun y hy _ => (set0 hC hy).elim⟩
        exact up2_same O 262 67 0
    obtain ⟨r, q, e1, e2, k0, k1, D, k2, k3, k4, k5⟩ := key
    dsimp only [jn] at e1 e2
    rw [e1, e2]
    dsimp only [Option.bind_some]
    rw [cl_copies107 k2 k3 k4]
    dsimp only [Option.bind_some]
    rw [k5]
    exact ⟨_, _, _, rfl, rfl, Inv_fr hI k0 k1⟩
end LAW
