/-! LEVEL 3, bb: what a formula is worth -/
theorem jd_ok : ∀ z ∈ LK, z ≠ 40 → z ≠ 108 → ∀ x y : Int, ∃ r : Int, f_X1_joined (z : Int) x y = some r ∧ f_X12_done (rcS z) x y = some r := by
  intro z hz h1 h2 x y
  have ht : ∀ P : Prop, ∀ [Decidable P], f_X12_truth (if P then (1 : Int) else 0) = if P then 1 else 0 := fun P _ => by
    by_cases p : P
    · rw [if_pos p]; rfl
    · rw [if_neg p]; rfl
  have ht0 : ∀ P : Prop, ∀ [Decidable P], f_X12_truth (if P then (0 : Int) else 1) = if P then 0 else 1 := fun P _ => by
    by_cases p : P
    · rw [if_pos p]; rfl
    · rw [if_neg p]; rfl
  have hz' : z = 40 ∨ z = 108 ∨ z = 106 ∨ z = 107 ∨ z = 37 ∨ z = 42 ∨ z = 43 ∨ z = 45 ∨ z = 47 ∨ z = 60 ∨ z = 61 ∨ z = 62 := by
    simpa [LK] using hz
  rcases hz' with rfl | rfl | rfl | rfl | rfl | rfl | rfl | rfl | rfl | rfl | rfl | rfl
  · exact absurd rfl h1
  · exact absurd rfl h2
  · refine ⟨if (x = 0 ∧ y = 0) then 0 else 1, ?_, ?_⟩
    · show (if (x = 0 ∧ y = 0) then some (0 : Int) else some 1) = _
      by_cases p : x = 0 ∧ y = 0
      · rw [if_pos p, if_pos p]
      · rw [if_neg p, if_neg p]
    · show some (f_X12_truth (if (x = 0 ∧ y = 0) then (0 : Int) else 1)) = _
      rw [ht0]
  · refine ⟨if (x = 0 ∨ y = 0) then 0 else 1, ?_, ?_⟩
    · show (if (x = 0 ∨ y = 0) then some (0 : Int) else some 1) = _
      by_cases p : x = 0 ∨ y = 0
      · rw [if_pos p, if_pos p]
      · rw [if_neg p, if_neg p]
    · show some (f_X12_truth (if (x = 0 ∨ y = 0) then (0 : Int) else 1)) = _
      rw [ht0]
  · by_cases p : y = 0
    · refine ⟨0, ?_, ?_⟩
      · show (if y = 0 then some (0 : Int) else _) = _
        rw [if_pos p]
      · show (if y = 0 then some (0 : Int) else _) = _
        rw [if_pos p]
    · refine ⟨zrem x y, ?_, ?_⟩
      · show (if y = 0 then some (0 : Int) else Option.bind (if y = 0 then none else some (zrem x y)) (fun v => some v)) = _
        rw [if_neg p, if_neg p]; rfl
      · show (if y = 0 then some (0 : Int) else Option.bind (if y = 0 then none else some (zrem x y)) (fun v => some v)) = _
        rw [if_neg p, if_neg p]; rfl
  · exact ⟨_, rfl, rfl⟩
  · exact ⟨_, rfl, rfl⟩
  · exact ⟨_, rfl, rfl⟩
  · by_cases p : y = 0
    · refine ⟨0, ?_, ?_⟩
      · show (if y = 0 then some (0 : Int) else _) = _
        rw [if_pos p]
      · show (if y = 0 then some (0 : Int) else _) = _
        rw [if_pos p]
    · refine ⟨zdiv x y, ?_, ?_⟩
      · show (if y = 0 then some (0 : Int) else Option.bind (if y = 0 then none else some (zdiv x y)) (fun v => some v)) = _
        rw [if_neg p, if_neg p]; rfl
      · show (if y = 0 then some (0 : Int) else Option.bind (if y = 0 then none else some (zdiv x y)) (fun v => some v)) = _
        rw [if_neg p, if_neg p]; rfl
  · refine ⟨if x < y then 1 else 0, ?_, ?_⟩
    · show (if x < y then some (1 : Int) else some 0) = _
      by_cases p : x < y
      · rw [if_pos p, if_pos p]
      · rw [if_neg p, if_neg p]
    · show some (f_X12_truth (if x < y then (1 : Int) else 0)) = _
      rw [ht]
  · refine ⟨if x = y then 1 else 0, ?_, ?_⟩
    · show (if x = y then some (1 : Int) else some 0) = _
      by_cases p : x = y
      · rw [if_pos p, if_pos p]
      · rw [if_neg p, if_neg p]
    · show some (f_X12_truth (if x = y then (1 : Int) else 0)) = _
      rw [ht]
  · refine ⟨if y < x then 1 else 0, ?_, ?_⟩
    · show (if y < x then some (1 : Int) else some 0) = _
      by_cases p : y < x
      · rw [if_pos p, if_pos p]
      · rw [if_neg p, if_neg p]
    · show some (f_X12_truth (if y < x then (1 : Int) else 0)) = _
      rw [ht]
def jv (z : Nat) (x y : Int) : Int := (f_X1_joined (z : Int) x y).getD 0
theorem jv_ok {z : Nat} (hz : z ∈ LK) (h1 : z ≠ 40) (h2 : z ≠ 108) (x y : Int) : f_X1_joined (z : Int) x y = some (jv z x y) ∧ f_X12_done (rcS z) x y = some (jv z x y) := by
  obtain ⟨r, a, b⟩ := jd_ok z hz h1 h2 x y
  unfold jv
  rw [a, b]
  exact ⟨rfl, rfl⟩
/-- the stack of values, top first, after the steps (last first) -/
def evL (ar : Nat → Int) : List Nat → List Int
  | [] => []
  | z :: r => if z = 108 then (match evL ar r with | a :: t => (if a = 0 then 1 else 0) :: t | [] => [])
    else if 1000 ≤ z then ((z : Int) - 1000) :: evL ar r
    else if 109 ≤ z ∧ z ≤ 113 then ar (z - 109) :: evL ar r
    else match evL ar r with | a :: b :: t => jv z b a :: t | _ => []
theorem evL_len {ar : Nat → Int} : ∀ (r : List Nat) (d : Nat), wfR r d → (evL ar r).length = d
  | [], d, h => by
    have : d = 0 := h
    rw [this]; rfl
  | z :: r, d, h => by
    unfold evL
    rcases h with ⟨h1, h2, h3⟩ | ⟨h1, h2, h3, h4⟩ | ⟨h1, h2, h3, h4⟩
    · rw [if_pos h1]
      have := evL_len (ar := ar) r d h3
      cases he : evL ar r with
      | nil => rw [he] at this; simp at this; omega
      | cons a t => rw [he] at this; simpa using this
    · have hl := evL_len (ar := ar) r (d - 1) h4
      rw [if_neg (by omega)]
      by_cases q : 1000 ≤ z
      · rw [if_pos q, List.length_cons, hl]; omega
      · rw [if_neg q, if_pos (by omega), List.length_cons, hl]; omega
    · have hf := LK_f z h2
      have hb := hf.2.2.2.1.mp h1
      have hr : ∀ k ∈ LK, k < 109 := by decide
      have := hr z h2
      have hl := evL_len (ar := ar) r (d + 1) h4
      rw [if_neg hb.2, if_neg (by omega), if_neg (by omega)]
      cases he : evL ar r with
      | nil => rw [he] at hl; simp at hl
      | cons a t =>
        cases t with
        | nil => rw [he] at hl; simp at hl; omega
        | cons b t => rw [he] at hl; simp at hl; simp; omega
theorem wfR_tl {z : Nat} {r : List Nat} {d : Nat} (h : wfR (z :: r) d) : ∃ d', wfR r d' := by
  rcases h with ⟨_, _, h⟩ | ⟨_, _, _, h⟩ | ⟨_, _, _, h⟩
  · exact ⟨_, h⟩
  · exact ⟨_, h⟩
  · exact ⟨_, h⟩
theorem wfR_drop : ∀ (r : List Nat) (d j : Nat), wfR r d → ∃ d', wfR (r.drop j) d'
  | r, d, 0, h => ⟨d, h⟩
  | [], d, j + 1, h => ⟨d, h⟩
  | z :: r, d, j + 1, h => by
    obtain ⟨d', h'⟩ := wfR_tl h
    exact wfR_drop r d' j h'
/-- a step of the class's stack of values -/
theorem row_take {S : Sst} {q : Nat} {x : Int} {t : List Int} (h : S.1 q = (x :: t).reverse) : f_X6_takeLast q S = (x, upR S q t.reverse) := by
  unfold f_X6_takeLast
  rw [h, List.reverse_cons, lat_last, List.dropLast_concat]
theorem row_add {S : Sst} {q : Nat} {x : Int} {t : List Int} (h : S.1 q = t.reverse) (hl : t.length < Ln (q + 1)) : f_X6_add q x S = upR S q (x :: t).reverse := by
  unfold f_X6_add
  rw [h, if_pos (by rw [List.length_reverse]; exact hl), List.reverse_cons]
def arC (a1 a2 a3 a4 a5 : Int) (i : Nat) : Int := if i = 0 then a1 else if i = 1 then a2 else if i = 2 then a3 else if i = 3 then a4 else a5
theorem wf_len {r : List Nat} {d : Nat} {z : Nat} (h : wfR (z :: r) d) (hU : ∀ d', wfR r d' → d' ≤ 41) : d ≤ 41 := by
  rcases h with ⟨h1, h2, h3⟩ | ⟨h1, h2, h3, h4⟩ | ⟨h1, h2, h3, h4⟩
  · exact hU _ h3
  · omega
  · have := hU _ h4; omega
theorem wf_le : ∀ (r : List Nat) (d : Nat), wfR r d → d ≤ 41
  | [], d, h => by have : d = 0 := h; omega
  | z :: r, d, h => wf_len h (fun d' h' => wf_le r d' h')
theorem cl_value {S : Sst} {rs : List Nat} {d : Nat} {a1 a2 a3 a4 a5 : Int} (h25 : S.1 25 = stR rs) (hw : wfR rs d) (hd : 1 ≤ d) (hl : rs.length ≤ 300) (hz : ∀ z ∈ rs, z < 11000) : Ret (f_X1_valueFor 24 a1 a2 a3 a4 a5 S) (fun r => r.1 = (evL (arC a1 a2 a3 a4 a5) rs).headD 0 ∧ (∀ k, k ≠ 27 → r.2.1 k = S.1 k) ∧ r.2.2 = S.2) := by
  unfold f_X1_valueFor
  dsimp only [jn]
  have hlen := fun (r : List Nat) (d : Nat) (h : wfR r d) => evL_len (ar := arC a1 a2 a3 a4 a5) r d h
  generalize hev : evL (arC a1 a2 a3 a4 a5) = ev at *
  refine Ret_bind (P := fun S' => S'.1 27 = (ev rs).reverse ∧ (∀ k, k ≠ 27 → S'.1 k = S.1 k) ∧ S'.2 = S.2) (Ret_lp (fun i q => q.1 = (i : Int) ∧ q.2.1 27 = (ev (rs.drop (rs.length - i))).reverse ∧ (∀ k, k ≠ 27 → q.2.1 k = S.1 k) ∧ q.2.2 = S.2) rs.length (by omega) ⟨rfl, ?_, fun k hk => ?_, rfl⟩ (fun i q hi hI => ?_) (fun q hI => ?_)) (fun S' hS' => ?_)
  · rw [Nat.sub_zero, List.drop_length, ← hev]
    exact upR_at _ _ _
  · exact upR_ne _ _ hk
  · obtain ⟨z, S1⟩ := q
    obtain ⟨rfl, i1, i2, i3⟩ := hI
    dsimp only at *
    have h25' : S1.1 (24 + 1) = stR rs := by rw [show 24 + 1 = 25 by rfl, i2 25 (by decide), h25]
    have hsz : f_X6_size (24 + 1) S1 = (rs.length : Int) := by
      unfold f_X6_size
      rw [h25', stR_len]
    have hj : rs.length - (i + 1) < rs.length := by omega
    have hdr : rs.drop (rs.length - (i + 1)) = rs[rs.length - (i + 1)]'hj :: rs.drop (rs.length - i) := by
      rw [List.drop_eq_getElem_cons hj, show rs.length - (i + 1) + 1 = rs.length - i by omega]
    have hat : f_X6_at (24 + 1) (i : Int) S1 = ((rs[rs.length - (i + 1)]'hj : Nat) : Int) := by
      unfold f_X6_at lat
      rw [h25', if_pos (by omega), Int.toNat_natCast]
      unfold stR
      rw [List.getD_eq_getElem?_getD, List.getElem?_map, List.getElem?_reverse hi]
      rw [show rs.length - 1 - i = rs.length - (i + 1) by omega, List.getElem?_eq_getElem hj]
      rfl
    obtain ⟨d', hw'⟩ := wfR_drop rs d (rs.length - (i + 1)) hw
    have hzm : rs[rs.length - (i + 1)]'hj < 11000 := hz _ (List.getElem_mem hj)
    rw [hdr] at hw' ⊢
    have hle := wf_le _ _ hw'
    generalize rs[rs.length - (i + 1)]'hj = z at *
    generalize rs.drop (rs.length - i) = r at *
    rw [hsz, if_pos (by omega), hat, wr_id (z := (i : Int) + 1) (by omega) (by omega)]
    -- what a step leaves
    have fin : ∀ (t : List Int) (v : Int) (S2 : Sst), (t.length < 64) → S2.1 27 = t.reverse → (∀ k, k ≠ 27 → S2.1 k = S.1 k) → S2.2 = S.2 → ev (z :: r) = v :: t → ∃ s', (Sum.inl (β := Sst) ((i : Int) + 1, f_X6_add (24 + 3) v S2)) = Sum.inl s' ∧ s'.1 = ((i + 1 : Nat) : Int) ∧ s'.2.1 27 = (ev (z :: r)).reverse ∧ (∀ k, k ≠ 27 → s'.2.1 k = S.1 k) ∧ s'.2.2 = S.2 := fun t v S2 q1 q2 q3 q4 q5 => by
      rw [row_add (q := 24 + 3) (t := t) q2 (by rw [show 24 + 3 + 1 = 28 by rfl, Ln28]; exact q1)]
      refine ⟨_, rfl, by simp, ?_, fun k hk => ?_, q4⟩
      · rw [q5]
        exact upR_at _ _ _
      · dsimp only
        rw [upR_ne _ _ hk]
        exact q3 k hk
    rcases hw' with ⟨w1, w2, w3⟩ | ⟨w1, w2, w3, w4⟩ | ⟨w1, w2, w3, w4⟩
    · subst w1
      have hl2 := hlen r d' w3
      cases he : ev r with
      | nil => rw [he] at hl2; simp at hl2; omega
      | cons a t =>
        rw [he] at hl2 i1
        simp at hl2
        rw [if_pos (show ((108 : Nat) : Int) = 108 from rfl), row_take (q := 24 + 3) i1]
        refine Ret_some (fin t _ _ (by omega) (upR_at _ _ _) (fun k hk => by rw [upR_ne _ _ hk]; exact i2 k hk) i3 ?_)
        rw [← hev] at he ⊢
        rw [show evL (arC a1 a2 a3 a4 a5) (108 :: r) = (match evL (arC a1 a2 a3 a4 a5) r with | a :: t => (if a = 0 then 1 else 0) :: t | [] => []) from if_pos rfl, he]
    · have hl2 := hlen r (d' - 1) w4
      rw [if_neg (c := (z : Int) = 108) (by omega)]
      by_cases q : 1000 ≤ z
      · rw [if_neg (c := (z : Int) = 109) (by omega), if_neg (c := (z : Int) = 110) (by omega), if_neg (c := (z : Int) = 111) (by omega), if_neg (c := (z : Int) = 112) (by omega), if_neg (c := (z : Int) = 113) (by omega)]
        unfold f_X1_doStep
        dsimp only [jn]
        rw [if_neg (c := (z : Int) < 1000) (by omega), wr_id (z := (z : Int) - 1000) (by omega) (by omega)]
        refine Ret_some (fin (ev r) _ _ (by omega) i1 i2 i3 ?_)
        rw [← hev]
        show (if z = 108 then _ else if 1000 ≤ z then _ else _) = _
        rw [if_neg (by omega), if_pos q]
      · have hv : ∀ v, arC a1 a2 a3 a4 a5 (z - 109) = v → ev (z :: r) = v :: ev r := fun v hv => by
          rw [← hev]
          show (if z = 108 then _ else if 1000 ≤ z then _ else if 109 ≤ z ∧ z ≤ 113 then _ else _) = _
          rw [if_neg (by omega), if_neg q, if_pos (by omega), hv]
        obtain rfl | rfl | rfl | rfl | rfl : z = 109 ∨ z = 110 ∨ z = 111 ∨ z = 112 ∨ z = 113 := by omega
        · rw [if_pos (by decide)]
          exact Ret_some (fin (ev r) _ _ (by omega) i1 i2 i3 (hv _ rfl))
        · rw [if_neg (by decide), if_pos (by decide)]
          exact Ret_some (fin (ev r) _ _ (by omega) i1 i2 i3 (hv _ rfl))
        · rw [if_neg (by decide), if_neg (by decide), if_pos (by decide)]
          exact Ret_some (fin (ev r) _ _ (by omega) i1 i2 i3 (hv _ rfl))
        · rw [if_neg (by decide), if_neg (by decide), if_neg (by decide), if_pos (by decide)]
          exact Ret_some (fin (ev r) _ _ (by omega) i1 i2 i3 (hv _ rfl))
        · rw [if_neg (by decide), if_neg (by decide), if_neg (by decide), if_neg (by decide), if_pos (by decide)]
          exact Ret_some (fin (ev r) _ _ (by omega) i1 i2 i3 (hv _ rfl))
    · have hf := LK_f z w2
      have hb := hf.2.2.2.1.mp w1
      have hr : ∀ k ∈ LK, k < 109 := by decide
      have hz109 := hr z w2
      have hl2 := hlen r (d' + 1) w4
      cases he : ev r with
      | nil => rw [he] at hl2; simp at hl2
      | cons a t =>
        cases t with
        | nil => rw [he] at hl2; simp at hl2; omega
        | cons b t =>
          rw [he] at hl2 i1
          simp at hl2
          have hle2 := wf_le r _ w4
          rw [if_neg (c := (z : Int) = 108) (by omega), if_neg (c := (z : Int) = 109) (by omega), if_neg (c := (z : Int) = 110) (by omega), if_neg (c := (z : Int) = 111) (by omega), if_neg (c := (z : Int) = 112) (by omega), if_neg (c := (z : Int) = 113) (by omega)]
          unfold f_X1_doStep
          dsimp only [jn]
          rw [if_pos (c := (z : Int) < 1000) (by omega), row_take (q := 24 + 3) i1]
          dsimp only
          rw [row_take (q := 24 + 3) (x := b) (t := t) (upR_at _ _ _)]
          dsimp only
          rw [(jv_ok w2 hb.1 hb.2 b a).1]
          dsimp only [Option.bind_some]
          refine Ret_some (fin t _ _ (by omega) (upR_at _ _ _) (fun k hk => by rw [upR_ne _ _ hk, upR_ne _ _ hk]; exact i2 k hk) i3 ?_)
          rw [← hev] at he ⊢
          show (if z = 108 then _ else if 1000 ≤ z then _ else if 109 ≤ z ∧ z ≤ 113 then _ else match evL (arC a1 a2 a3 a4 a5) r with | a :: b :: t => jv z b a :: t | _ => []) = _
          rw [if_neg hb.2, if_neg (by omega), if_neg (by omega), he]
  · obtain ⟨z, S1⟩ := q
    obtain ⟨rfl, i1, i2, i3⟩ := hI
    dsimp only at *
    have hsz : f_X6_size (24 + 1) S1 = (rs.length : Int) := by
      unfold f_X6_size
      rw [show 24 + 1 = 25 by rfl, i2 25 (by decide), h25, stR_len]
    rw [hsz, if_neg (by omega)]
    rw [Nat.sub_self, List.drop_zero] at i1
    exact Ret_some ⟨_, rfl, i1, i2, i3⟩
  · obtain ⟨h1, h2, h3⟩ := hS'
    refine Ret_some ⟨?_, h2, h3⟩
    have hl2 := hlen rs d hw
    dsimp only
    unfold f_X6_last
    rw [show 24 + 3 = 27 by rfl, h1]
    cases he : ev rs with
    | nil => rw [he] at hl2; simp at hl2; omega
    | cons a t =>
      rw [List.reverse_cons, lat_last]
      rfl
