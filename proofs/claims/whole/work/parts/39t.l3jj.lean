/-! LEVEL 3, jj: fits, sure, ask -/
theorem agF_fr {O O' : Smo} (e1 : O' 298 = O 298) (e2 : O' 299 = O 299) (e3 : O' 300 = O 300) (e4 : O' 301 = O 301) (t b : Int) (c : Nat) : agF O' t b c = agF O t b c := by
  have : okI O' t b = okI O t b := by
    unfold okI
    rw [e1, e2, e3, e4]
  unfold agF
  rw [this]
theorem add_l {S : Sst} {q : Nat} {l : List Int} {v : Int} (h : S.1 q = l) (hn : l.length < Ln (q + 1)) : f_X6_add q v S = upR S q (l ++ [v]) := by
  unfold f_X6_add
  rw [h, if_pos hn]
theorem natL_app (l : List Nat) (k : Nat) : natL (l ++ [k]) = natL l ++ [(k : Int)] := by
  unfold natL
  simp
def fitP (O : Smo) (t up : Int) (n ns k : Nat) : Bool := agF O t (blN (sgO O) k up n) ns
section TOLD2
variable {S S' : Sst} {O O' : Smo} {n ne slots v tp bs ns : Nat} {lo : Nat → Nat}
theorem cl_gather (h : IPlan S O n ne slots lo) (hT : Tol S O ns) {t up : Int} (hup : -9 ≤ up ∧ up ≤ 99) : Ret (f_X9_gather up t S) (fun r => r.1 = 1 ∧ r.2.1 250 = natL (fiL (fitP O t up n ns) 61) ∧ r.2.1 252 = (fiL (fitP O t up n ns) 61).map (fun (k : Nat) => blN (sgO O) k up n) ∧ (∀ k, k ≠ 250 → k ≠ 252 → r.2.1 k = S.1 k) ∧ r.2.2 = S.2) := by
  unfold f_X9_gather f_X6_clear
  dsimp only [jn]
  rw [if_neg (by omega)]
  refine Ret_bind (Ret_lp (fun c q => q.1 = (c : Int) ∧ q.2.1 250 = natL (fiL (fitP O t up n ns) c) ∧ q.2.1 252 = (fiL (fitP O t up n ns) c).map (fun (k : Nat) => blN (sgO O) k up n) ∧ (∀ k, k ≠ 250 → k ≠ 252 → q.2.1 k = S.1 k) ∧ q.2.2 = S.2) 61 (by decide) ⟨rfl, by rw [upR_ne _ _ (by decide), upR_at]; rfl, by rw [upR_at]; rfl, fun k a b => by rw [upR_ne _ _ b, upR_ne _ _ a], rfl⟩ (fun c q hc hI => ?_) (fun q hI => ?_) (Q := fun r => r.1 250 = natL (fiL (fitP O t up n ns) 61) ∧ r.1 252 = (fiL (fitP O t up n ns) 61).map (fun (k : Nat) => blN (sgO O) k up n) ∧ (∀ k, k ≠ 250 → k ≠ 252 → r.1 k = S.1 k) ∧ r.2 = S.2)) (fun r hr => Ret_some ⟨rfl, hr⟩)
  · obtain ⟨z, S1⟩ := q
    obtain ⟨rfl, i1, i2, i3, i4⟩ := hI
    dsimp only at *
    have hT1 : Tol S1 O ns := by
      obtain ⟨t1, t2, t3, t4, t5, t6, t9⟩ := hT
      exact ⟨by rw [i3 _ (by decide) (by decide)]; exact t1, by rw [i3 _ (by decide) (by decide)]; exact t2, by rw [i3 _ (by decide) (by decide)]; exact t3, by rw [i3 _ (by decide) (by decide)]; exact t4, t5, t6, t9⟩
    have hl := fiL_len (fitP O t up n ns) c
    rw [if_neg (by omega), cl_region h (fun k hk => i3 k (by omega) (by omega)) (by omega) hup]
    dsimp only [Option.bind_some]
    rw [cl_agrees hT1]
    dsimp only [Option.bind_some]
    rw [wr_id (by omega) (by omega)]
    rw [fiL_s]
    by_cases hP : fitP O t up n ns c = true
    · have hP' : agF O t (blN (sgO O) c up n) ns = true := hP
      rw [if_pos hP', if_neg (show ¬ (1 : Int) = 0 by decide), if_pos hP, add_l i1 (by rw [Ln251, natL_len]; omega), add_l (S := upR S1 250 _) (l := (fiL (fitP O t up n ns) c).map (fun (k : Nat) => blN (sgO O) k up n)) (upR_ne _ _ (by decide) |>.trans i2) (by rw [Ln253, List.length_map]; omega)]
      refine Ret_some ⟨_, rfl, by simp, ?_, ?_, fun k a b => ?_, i4⟩
      · dsimp only
        rw [upR_ne _ _ (by decide), upR_at, natL_app]
      · dsimp only
        rw [upR_at, List.map_append]
        rfl
      · dsimp only
        rw [upR_ne _ _ b, upR_ne _ _ a, i3 k a b]
    · have hP' : ¬ agF O t (blN (sgO O) c up n) ns = true := hP
      rw [if_neg hP', if_pos rfl, if_neg hP]
      exact Ret_some ⟨_, rfl, by simp, i1, i2, i3, i4⟩
  · obtain ⟨z, S1⟩ := q
    obtain ⟨rfl, i1, i2, i3, i4⟩ := hI
    dsimp only at *
    rw [if_pos (by omega)]
    exact Ret_some ⟨_, rfl, i1, i2, i3, i4⟩
theorem rf_fits (hg : OkSeg (sgO O) n) (h39 : O 262 39 = (n : Int)) (t5 : ns ≤ 30) (t6 : O 262 73 = (ns : Int)) (t9 : ∀ i, i < ns → (O 301 i = 0 ∨ O 301 i = 1) ∧ (O 300 i = -1 ∨ 0 ≤ O 300 i)) {t up : Int} (hup : -9 ≤ up ∧ up ≤ 99) : Ret (f_X12_layFits up t O) (fun r => r.1 = ((fiL (fitP O t up n ns) 61).length : Int) ∧ (∀ (k : Nat), k < 61 → r.2 302 k = blN (sgO O) k up n ∧ r.2 303 k = if fitP O t up n ns k = true then 1 else 0) ∧ ∀ k, k ≠ 302 → k ≠ 303 → r.2 k = O k) := by
  unfold f_X12_layFits
  refine Ret_bind (Ret_lp (fun c q => q.1 = ((fiL (fitP O t up n ns) c).length : Int) ∧ q.2.1 = (c : Int) ∧ (∀ (k : Nat), k < c → q.2.2 302 k = blN (sgO O) k up n ∧ q.2.2 303 k = if fitP O t up n ns k = true then 1 else 0) ∧ ∀ k, k ≠ 302 → k ≠ 303 → q.2.2 k = O k) 61 (by decide) ⟨rfl, rfl, fun k hk => by omega, fun _ _ _ => rfl⟩ (fun c q hc hI => ?_) (fun q hI => ?_) (Q := fun r => r.1 = ((fiL (fitP O t up n ns) 61).length : Int) ∧ (∀ (k : Nat), k < 61 → r.2 302 k = blN (sgO O) k up n ∧ r.2 303 k = if fitP O t up n ns k = true then 1 else 0) ∧ ∀ k, k ≠ 302 → k ≠ 303 → r.2 k = O k)) (fun r hr => Ret_some hr)
  · obtain ⟨w, z, O1⟩ := q
    obtain ⟨rfl, rfl, i1, i2⟩ := hI
    dsimp only at *
    have hl := fiL_len (fitP O t up n ns) c
    have hsg : sgO O1 = sgO O := sgO_fr (fun k a b => i2 k (by omega) (by omega))
    have o262 : O1 262 = O 262 := i2 _ (by decide) (by decide)
    rw [if_neg (by omega)]
    obtain ⟨r, e1, e2⟩ := rf_region (O := O1) (n := n) (x := (c : Int)) (up := up) (by rw [hsg]; exact hg) (by rw [o262]; exact h39) (by omega) hup
    rw [e1]
    dsimp only [Option.bind_some]
    rw [e2]
    dsimp only [Option.bind_some]
    rw [Ln302, aset_nat (show c < 61 by omega)]
    dsimp only [Option.bind_some]
    rw [hsg]
    have i3 : ∀ k, k ≠ 302 → k ≠ 303 → up2 O1 302 c (blN (sgO O) c up n) k = O k := fun k a b => by rw [up2_row a, i2 k a b]
    have i4 : up2 O1 302 c (blN (sgO O) c up n) 302 c = blN (sgO O) c up n := up2_same _ _ _ _
    have i5 : ∀ (k : Nat), k < c → up2 O1 302 c (blN (sgO O) c up n) 302 k = blN (sgO O) k up n ∧ up2 O1 302 c (blN (sgO O) c up n) 303 k = if fitP O t up n ns k = true then 1 else 0 := fun k hk => by
      rw [up2_ne (Or.inr (by omega)), up2_ne (Or.inl (by decide))]
      exact i1 k hk
    generalize up2 O1 302 c (blN (sgO O) c up n) = O2 at *
    have hag := rf_agrees (O := O2) (ns := ns) (k := c) (t := t) t5 (by rw [i3 262 (by decide) (by decide)]; exact t6) (fun i hi => by rw [i3 301 (by decide) (by decide), i3 300 (by decide) (by decide)]; exact t9 i hi) hc i4
    rw [agF_fr (i3 298 (by decide) (by decide)) (i3 299 (by decide) (by decide)) (i3 300 (by decide) (by decide)) (i3 301 (by decide) (by decide))] at hag
    rw [Ln302] at hag
    rw [hag]
    dsimp only [Option.bind_some]
    rw [Ln303, aset_nat hc]
    dsimp only [Option.bind_some]
    rw [fiL_s]
    dsimp only [jn]
    refine Ret_some ⟨_, rfl, ?_, by dsimp only; rw [wr_id (by omega) (by omega)]; simp, fun k hk => ?_, fun k a b => by dsimp only; rw [up2_row b, i3 k a b]⟩
    · dsimp only
      by_cases hP : fitP O t up n ns c = true
      · have hP' : agF O t (blN (sgO O) c up n) ns = true := hP
        rw [if_pos hP', if_pos hP, show f_X12_truth 1 = 1 from rfl, wr_id (by omega) (by omega)]
        simp
      · have hP' : ¬ agF O t (blN (sgO O) c up n) ns = true := hP
        rw [if_neg hP', if_neg hP, show f_X12_truth 0 = 0 from rfl, wr_id (by omega) (by omega)]
        simp
    · dsimp only
      rw [up2_row (a := 302) (by decide)]
      by_cases e : k = c
      · subst e
        rw [up2_same]
        exact ⟨i4, rfl⟩
      · rw [up2_ne (Or.inr e)]
        exact i5 k (by omega)
  · obtain ⟨w, z, O1⟩ := q
    obtain ⟨rfl, rfl, i1, i2⟩ := hI
    dsimp only at *
    rw [if_pos (by omega)]
    exact Ret_some ⟨_, rfl, rfl, i1, i2⟩
theorem Tol_of (h8 : ITold S O n) : ∃ ns, Tol S O ns := by
  obtain ⟨_, ns, t1, t2, t3, t4, t5, t6, t7, t8, t9⟩ := h8
  exact ⟨ns, t1, t2, t3, t4, t5, t6, fun i hi => ⟨(t9 i hi).1, (t9 i hi).2.1⟩⟩
theorem Inv_gat (h : Inv S O) (c1 : ∀ k, k ≠ 250 → k ≠ 252 → S'.1 k = S.1 k) (c2 : S'.2 = S.2) (r : ∀ k, k ≠ 302 → k ≠ 303 → O' k = O k) : Inv S' O' :=
  Inv_fr h ⟨fun k a b c d => c1 k (by omega) (by omega), fun k j _ _ => by rw [c2]⟩ ⟨fun k a b c d e => r k d e, fun j _ _ _ => by rw [r 262 (by decide) (by decide)]⟩
/-- where the height is no height -/
theorem cl_gather_out {t up : Int} (hup : ¬ (-9 ≤ up ∧ up ≤ 99)) : ∃ S', f_X9_gather up t S = some (0, S') ∧ (∀ k, k ≠ 250 → k ≠ 252 → S'.1 k = S.1 k) ∧ S'.2 = S.2 := by
  unfold f_X9_gather f_X6_clear
  dsimp only [jn]
  rw [if_pos (by omega)]
  exact ⟨_, rfl, fun k a b => by rw [upR_ne _ _ b, upR_ne _ _ a], rfl⟩
theorem isH {up : Int} : f_X12_isHeight up = if -9 ≤ up ∧ up ≤ 99 then 1 else 0 := by
  unfold f_X12_isHeight f_X12_isIn
  split <;> split <;> first | rfl | omega
theorem op_fits {S : Sst} {O : Smo} (h : Inv S O) (up t : Int) : Op2 (f_X11_fits up t S) (f_X12_fits up t O) := by
  have hI := h
  obtain ⟨n, ne, slots, lo, v, tp, bs, h1, h2, h3, h4, h5, h6, h7, h8⟩ := h
  obtain ⟨ns, hT⟩ := Tol_of h8
  unfold f_X11_fits f_X12_fits
  rw [isH]
  by_cases hup : -9 ≤ up ∧ up ≤ 99
  · obtain ⟨⟨r, S'⟩, e1, rfl, a1, a2, a3, a4⟩ := cl_gather (t := t) h4 hT hup
    obtain ⟨⟨w, O'⟩, e2, rfl, b1, b2⟩ := rf_fits (t := t) h4.2.1 h4.2.2.2.2.1 hT.2.2.2.2.1 hT.2.2.2.2.2.1 hT.2.2.2.2.2.2 hup
    dsimp only at *
    rw [e1, e2, if_pos hup, if_neg (show ¬ (1 : Int) = 0 by decide)]
    dsimp only [Option.bind_some]
    rw [if_neg (show ¬ (1 : Int) = 0 by decide)]
    have hsz : f_X6_size 250 S' = ((fiL (fitP O t up n ns) 61).length : Int) := by
      unfold f_X6_size
      rw [a1, natL_len]
    rw [hsz]
    exact ⟨_, _, _, rfl, rfl, Inv_gat hI a3 a4 b2⟩
  · obtain ⟨S', e1, a3, a4⟩ := cl_gather_out (S := S) (t := t) hup
    rw [e1, if_neg hup, if_pos rfl]
    dsimp only [Option.bind_some]
    rw [if_pos rfl]
    exact ⟨_, _, _, rfl, rfl, Inv_gat hI a3 a4 (fun _ _ _ => rfl)⟩
end TOLD2
