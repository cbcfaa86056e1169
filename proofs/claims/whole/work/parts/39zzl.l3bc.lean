/-! LEVEL 3, bc: what a formula is worth, the reference -/
theorem wfR_lt : ∀ (r : List Nat) (d : Nat), wfR r d → ∀ z ∈ r, z < 11000
  | [], _, _, z, hz => by cases hz
  | x :: r, d, h, z, hz => by
    have hx : x < 11000 ∧ ∃ d', wfR r d' := by
      rcases h with ⟨a, _, b⟩ | ⟨a, _, _, b⟩ | ⟨_, a, _, b⟩
      · exact ⟨by omega, _, b⟩
      · exact ⟨by omega, _, b⟩
      · exact ⟨by have := (LK_f x a).2.2.2.2.2.1; omega, _, b⟩
    obtain ⟨h1, d', h2⟩ := hx
    rcases List.mem_cons.mp hz with e | e
    · rw [e]; exact h1
    · exact wfR_lt r d' h2 z e
def RSi (a : Nat → Int) : List Int → Prop
  | [] => True
  | k :: st => a st.length = k ∧ RSi a st
theorem RSi_upd {a : Nat → Int} {v : Int} : ∀ {st : List Int} {j : Nat}, st.length ≤ j → RSi a st → RSi (updI a j v) st
  | [], _, _, _ => trivial
  | k :: st, j, hj, hr => by
    have hl : st.length + 1 ≤ j := hj
    refine ⟨?_, RSi_upd (by omega) hr.2⟩
    rw [upd_ne (by omega)]
    exact hr.1
theorem RSi_push {a : Nat → Int} {st : List Int} {v : Int} (hr : RSi a st) : RSi (updI a st.length v) (v :: st) := ⟨upd_same _ _ _, RSi_upd (Nat.le_refl _) hr⟩
def dwS (seed : Int) : Nat → Int
  | 0 => seed
  | i + 1 => zrem (wr ((wr (dwS seed i * 137)) + 71)) 1000
theorem rf_eval {O : Smo} {rs : List Nat} {ar : Nat → Int} {d : Nat} (h17 : O 262 17 = (rs.length : Int)) (h66 : RSt (O 266) dcA rs) (h67 : RSt (O 267) dcB rs) (hw : wfR rs d) (hl : rs.length ≤ 300) (h70 : ∀ i, i < 5 → O 270 i = ar i) : Ret (lp (fun (s5901 : Int × Int × Smo) =>
      if s5901.2.1 < s5901.2.2 262 17 then
        (Option.bind (aget (s5901.2.2 266) (Ln 266) s5901.2.1) fun (v5909 : Int) =>
        Option.bind (
          if v5909 = 0 then
            (Option.bind (aget (s5901.2.2 266) (Ln 266) s5901.2.1) fun (v5916 : Int) =>
            Option.bind (
              if v5916 = 0 then
                (Option.bind (aget (s5901.2.2 267) (Ln 267) s5901.2.1) fun (v5923 : Int) =>
                some v5923)
              else
                (Option.bind (aget (s5901.2.2 267) (Ln 267) s5901.2.1) fun (v5925 : Int) =>
                Option.bind (aget (s5901.2.2 270) (Ln 270) v5925) fun (v5927 : Int) =>
                some v5927)) fun (q5918 : Int) =>
            Option.bind (asetO s5901.2.2 269 (Ln 269) s5901.1 q5918) fun (O5929 : Smo) =>
            some (wr (s5901.1 + 1), O5929))
          else
            (Option.bind (aget (s5901.2.2 266) (Ln 266) s5901.2.1) fun (v5930 : Int) =>
            if v5930 = 1 then
              (Option.bind (aget (s5901.2.2 266) (Ln 266) s5901.2.1) fun (v5933 : Int) =>
              Option.bind (
                if v5933 = 0 then
                  (Option.bind (aget (s5901.2.2 267) (Ln 267) s5901.2.1) fun (v5940 : Int) =>
                  some v5940)
                else
                  (Option.bind (aget (s5901.2.2 267) (Ln 267) s5901.2.1) fun (v5942 : Int) =>
                  Option.bind (aget (s5901.2.2 270) (Ln 270) v5942) fun (v5944 : Int) =>
                  some v5944)) fun (q5935 : Int) =>
              Option.bind (asetO s5901.2.2 269 (Ln 269) s5901.1 q5935) fun (O5946 : Smo) =>
              some (wr (s5901.1 + 1), O5946))
            else
              (Option.bind (aget (s5901.2.2 266) (Ln 266) s5901.2.1) fun (v5947 : Int) =>
              if v5947 = 2 then
                (Option.bind (aget (s5901.2.2 269) (Ln 269) (wr (s5901.1 - 1))) fun (v5950 : Int) =>
                jn (
                  if v5950 = 0 then
                    (1)
                  else
                    (0)) fun (q5952 : Int) =>
                Option.bind (asetO s5901.2.2 269 (Ln 269) (wr (s5901.1 - 1)) (f_X12_truth q5952)) fun (O5958 : Smo) =>
                some (s5901.1, O5958))
              else
                (Option.bind (aget (s5901.2.2 267) (Ln 267) s5901.2.1) fun (v5959 : Int) =>
                Option.bind (aget (s5901.2.2 269) (Ln 269) (wr ((wr (s5901.1 + (-1))) - 1))) fun (v5961 : Int) =>
                Option.bind (aget (s5901.2.2 269) (Ln 269) (wr (s5901.1 + (-1)))) fun (v5963 : Int) =>
                Option.bind (f_X12_done v5959 v5961 v5963) fun (q5966 : Int) =>
                Option.bind (asetO s5901.2.2 269 (Ln 269) (wr ((wr (s5901.1 + (-1))) - 1)) q5966) fun (O5968 : Smo) =>
                some (wr (s5901.1 + (-1)), O5968))))) fun (q5911 : Int × Smo) =>
        some (Sum.inl (q5911.1, wr (s5901.2.1 + 1), q5911.2)))
      else
        (some (Sum.inr s5901.2.2))) FU (0, 0, O)) (fun r => RSi (r 269) (evL ar rs) ∧ ∀ k, k ≠ 269 → r k = O k) := by
  have hlen := fun (r : List Nat) (d : Nat) (h : wfR r d) => evL_len (ar := ar) r d h
  have ht : ∀ v : Int, f_X12_truth (if v = 0 then (1 : Int) else 0) = if v = 0 then 1 else 0 := fun v => by
    by_cases q : v = 0
    · rw [if_pos q]; rfl
    · rw [if_neg q]; rfl
  refine Ret_lp (fun i q => q.1 = ((evL ar (rs.drop (rs.length - i))).length : Int) ∧ q.2.1 = (i : Int) ∧ RSi (q.2.2 269) (evL ar (rs.drop (rs.length - i))) ∧ ∀ k, k ≠ 269 → q.2.2 k = O k) rs.length (by omega) ⟨by rw [Nat.sub_zero, List.drop_length]; rfl, rfl, by rw [Nat.sub_zero, List.drop_length]; exact trivial, fun _ _ => rfl⟩ (fun i q hi hI => ?_) (fun q hI => ?_)
  · obtain ⟨sp, z, O1⟩ := q
    obtain ⟨rfl, rfl, i1, i2⟩ := hI
    dsimp only [jn] at *
    have hj : rs.length - (i + 1) < rs.length := by omega
    have hdr : rs.drop (rs.length - (i + 1)) = rs[rs.length - (i + 1)]'hj :: rs.drop (rs.length - i) := by
      rw [List.drop_eq_getElem_cons hj, show rs.length - (i + 1) + 1 = rs.length - i by omega]
    have hrv : rs.reverse[i]? = some (rs[rs.length - (i + 1)]'hj) := by
      rw [List.getElem?_reverse hi, show rs.length - 1 - i = rs.length - (i + 1) by omega, List.getElem?_eq_getElem hj]
    have ha := RSt_get h66 hrv
    have hb := RSt_get h67 hrv
    obtain ⟨d', hw'⟩ := wfR_drop rs d (rs.length - (i + 1)) hw
    rw [hdr] at hw' ⊢
    have hle := wf_le _ _ hw'
    generalize rs[rs.length - (i + 1)]'hj = z at *
    generalize rs.drop (rs.length - i) = r at *
    have x66 : O1 266 i = dcA z := by rw [i2 266 (by decide), ha]
    have x67 : O1 267 i = dcB z := by rw [i2 267 (by decide), hb]
    rw [if_pos (c := (i : Int) < O1 262 17) (by rw [i2 262 (by decide), h17]; omega), Ln266, aget_nat (show i < 320 by omega), x66]
    dsimp only [Option.bind_some]
    rw [Ln267, aget_nat (show i < 320 by omega), x67, wr_id (z := (i : Int) + 1) (by omega) (by omega)]
    have hrow : ∀ (v : Int) (j : Nat), up2 O1 269 j v 269 = updI (O1 269) j v := fun v j => by rw [up2_self]; rfl
    rcases hw' with ⟨w1, w2, w3⟩ | ⟨w1, w2, w3, w4⟩ | ⟨w1, w2, w3, w4⟩
    · subst w1
      have hl2 := hlen r d' w3
      rw [show dcA 108 = 2 by decide, if_neg (by decide), if_neg (by decide), if_pos rfl]
      cases he : evL ar r with
      | nil => rw [he] at hl2; simp at hl2; omega
      | cons a t =>
        rw [he] at hl2 i1
        rw [List.length_cons] at hl2 ⊢
        have hev : evL ar (108 :: r) = (if a = 0 then 1 else 0) :: t := by
          rw [show evL ar (108 :: r) = (match evL ar r with | a :: t => (if a = 0 then 1 else 0) :: t | [] => []) from if_pos rfl, he]
        rw [show wr (((t.length + 1 : Nat) : Int) - 1) = (t.length : Int) by rw [wr_id (by omega) (by omega)]; omega, Ln269, aget_nat (show t.length < 64 by omega), i1.1]
        dsimp only [Option.bind_some]
        rw [ht, aset_nat (show t.length < 64 by omega)]
        dsimp only [Option.bind_some]
        refine Ret_some ⟨_, rfl, ?_, by simp, ?_, fun k hk => ?_⟩
        · dsimp only
          rw [hev, List.length_cons]
        · dsimp only
          rw [hev, hrow]
          exact RSi_push i1.2
        · dsimp only
          rw [up2_row hk, i2 k hk]
    · have hl2 := hlen r (d' - 1) w4
      have hd0 : (evL ar r).length < 64 := by omega
      by_cases q : 1000 ≤ z
      · have hA : dcA z = 0 := by unfold dcA; rw [if_pos q]
        have hB : dcB z = (z : Int) - 1000 := by unfold dcB; rw [if_pos q]
        have hev : evL ar (z :: r) = ((z : Int) - 1000) :: evL ar r := by
          show (if z = 108 then _ else if 1000 ≤ z then _ else _) = _
          rw [if_neg (by omega), if_pos q]
        rw [hA, if_pos rfl, if_pos rfl, hB]
        dsimp only [Option.bind_some]
        rw [Ln269, aset_nat hd0]
        dsimp only [Option.bind_some]
        refine Ret_some ⟨_, rfl, ?_, by simp, ?_, fun k hk => ?_⟩
        · dsimp only
          rw [hev, List.length_cons, wr_id (by omega) (by omega)]; omega
        · dsimp only
          rw [hev, hrow]
          exact RSi_push i1
        · dsimp only
          rw [up2_row hk, i2 k hk]
      · have hA : dcA z = 1 := by unfold dcA; rw [if_neg q, if_pos (by omega)]
        have hB : dcB z = ((z - 109 : Nat) : Int) := by unfold dcB; rw [if_neg q, if_pos (by omega)]; omega
        have hev : evL ar (z :: r) = ar (z - 109) :: evL ar r := by
          show (if z = 108 then _ else if 1000 ≤ z then _ else if 109 ≤ z ∧ z ≤ 113 then _ else _) = _
          rw [if_neg (by omega), if_neg q, if_pos (by omega)]
        rw [hA, if_neg (by decide), if_pos rfl, if_neg (by decide), hB]
        dsimp only [Option.bind_some]
        rw [Ln270, aget_nat (show z - 109 < 5 by omega), i2 270 (by decide), h70 _ (by omega)]
        dsimp only [Option.bind_some]
        rw [Ln269, aset_nat hd0]
        dsimp only [Option.bind_some]
        refine Ret_some ⟨_, rfl, ?_, by simp, ?_, fun k hk => ?_⟩
        · dsimp only
          rw [hev, List.length_cons, wr_id (by omega) (by omega)]; omega
        · dsimp only
          rw [hev, hrow]
          exact RSi_push i1
        · dsimp only
          rw [up2_row hk, i2 k hk]
    · have hf := LK_f z w2
      have hbb := hf.2.2.2.1.mp w1
      obtain ⟨hA, hB⟩ := hf.2.2.2.2.2.2.1 hbb.1 hbb.2
      have hr : ∀ k ∈ LK, k < 109 := by decide
      have hz109 := hr z w2
      have hl2 := hlen r (d' + 1) w4
      have hle2 := wf_le r _ w4
      rw [hA, if_neg (by decide), if_neg (by decide), if_neg (by decide)]
      cases he : evL ar r with
      | nil => rw [he] at hl2; simp at hl2
      | cons a t =>
        cases t with
        | nil => rw [he] at hl2; simp at hl2; omega
        | cons b t =>
          rw [he] at hl2 i1
          rw [List.length_cons, List.length_cons] at hl2 ⊢
          have hev : evL ar (z :: r) = jv z b a :: t := by
            show (if z = 108 then _ else if 1000 ≤ z then _ else if 109 ≤ z ∧ z ≤ 113 then _ else match evL ar r with | a :: b :: t => jv z b a :: t | _ => []) = _
            rw [if_neg hbb.2, if_neg (by omega), if_neg (by omega), he]
          have e1 : wr (((t.length + 1 + 1 : Nat) : Int) + -1) = ((t.length + 1 : Nat) : Int) := by rw [wr_id (by omega) (by omega)]; omega
          have e2 : wr (((t.length + 1 : Nat) : Int) - 1) = (t.length : Int) := by rw [wr_id (by omega) (by omega)]; omega
          have ia : O1 269 (t.length + 1) = a := i1.1
          have ib : O1 269 t.length = b := i1.2.1
          rw [e1, e2, Ln269, aget_nat (show t.length < 64 by omega), ib]
          dsimp only [Option.bind_some]
          rw [aget_nat (show t.length + 1 < 64 by omega), ia]
          dsimp only [Option.bind_some]
          rw [hB, (jv_ok w2 hbb.1 hbb.2 b a).2]
          dsimp only [Option.bind_some]
          rw [aset_nat (show t.length < 64 by omega)]
          dsimp only [Option.bind_some]
          refine Ret_some ⟨_, rfl, ?_, by simp, ?_, fun k hk => ?_⟩
          · dsimp only
            rw [hev, List.length_cons]
          · dsimp only
            rw [hev, hrow]
            exact RSi_push i1.2.2
          · dsimp only
            rw [up2_row hk, i2 k hk]
  · obtain ⟨sp, z, O1⟩ := q
    obtain ⟨rfl, rfl, i1, i2⟩ := hI
    dsimp only [jn] at *
    rw [if_neg (c := (rs.length : Int) < O1 262 17) (by rw [i2 262 (by decide), h17]; omega)]
    rw [Nat.sub_self, List.drop_zero] at i1
    exact Ret_some ⟨_, rfl, i1, i2⟩
theorem rf_seed {a : Nat} (ha : a < 100) (seed : Int) : lp (fun (s5871 : Int × Int) =>
    if (a : Int) < s5871.2 then
      (some (Sum.inr s5871.1))
    else
      (jn (zrem (wr ((wr (s5871.1 * 137)) + 71)) 1000) fun (v5878 : Int) =>
      some (Sum.inl (v5878, wr (s5871.2 + 1))))) FU (seed, 0) = some (dwS seed (a + 1)) := by
  refine Ret_eq (Ret_lp (fun i q => q = (dwS seed i, (i : Int))) (a + 1) (by omega) rfl (fun i q hi hI => ?_) (fun q hI => ?_))
  · subst hI
    dsimp only [jn]
    rw [if_neg (by omega), wr_id (z := (i : Int) + 1) (by omega) (by omega)]
    exact Ret_some ⟨_, rfl, rfl⟩
  · subst hI
    dsimp only
    rw [if_pos (by omega)]
    exact Ret_some ⟨_, rfl, rfl⟩
theorem rf_weight {O : Smo} {s : Nat} {rs : List Nat} {seed : Int} (hs : s < 8) (hb : SegB (sgO O) s) (h41 : O 262 41 = seed) (hF : (O 262 24 = 0 ∧ rs = [113]) ∨ (O 262 24 = 1 ∧ O 262 17 = (rs.length : Int) ∧ RSt (O 266) dcA rs ∧ RSt (O 267) dcB rs ∧ wfR rs 1 ∧ rs.length ≤ 300)) : Ret (f_X12_weightOf s O) (fun r => r.1 = (evL (arC s (sga (sgO O) s) (gW (sgO O) s) (gR (sgO O) s) (zrem (dwS seed (s + 1)) 100)) rs).headD 0 ∧ ∀ k, k ≠ 269 → k ≠ 270 → r.2 k = O k) := by
  have w := gW_pos hb
  have r := gR_bd hb
  unfold f_X12_weightOf
  dsimp only [jn]
  have hsd := rf_seed (a := s) (by omega) seed
  dsimp only [jn] at hsd
  rw [h41, hsd]
  dsimp only [Option.bind_some]
  generalize dwS seed (s + 1) = dv
  have as0 : ∀ (M : Smo) (v : Int), asetO M 270 5 0 v = some (up2 M 270 0 v) := fun M v => aset_nat (i := 0) (by decide)
  have as1 : ∀ (M : Smo) (v : Int), asetO M 270 5 1 v = some (up2 M 270 1 v) := fun M v => aset_nat (i := 1) (by decide)
  have as2 : ∀ (M : Smo) (v : Int), asetO M 270 5 2 v = some (up2 M 270 2 v) := fun M v => aset_nat (i := 2) (by decide)
  have as3 : ∀ (M : Smo) (v : Int), asetO M 270 5 3 v = some (up2 M 270 3 v) := fun M v => aset_nat (i := 3) (by decide)
  have as4 : ∀ (M : Smo) (v : Int), asetO M 270 5 4 v = some (up2 M 270 4 v) := fun M v => aset_nat (i := 4) (by decide)
  have ag4 : ∀ g : Nat → Int, aget g 5 4 = some (g 4) := fun g => aget_nat (k := 4) (by decide)
  have ag0 : ∀ g : Nat → Int, aget g 64 0 = some (g 0) := fun g => aget_nat (k := 0) (by decide)
  have e1 : O 278 s - O 276 s = gW (sgO O) s := rfl
  have e2 : O 279 s - O 277 s = gR (sgO O) s := rfl
  have e3 : O 276 s = sga (sgO O) s := rfl
  rw [Ln270, as0]
  dsimp only [Option.bind_some]
  rw [Ln276, aget_nat hs, up2_row (by decide)]
  dsimp only [Option.bind_some]
  rw [as1]
  dsimp only [Option.bind_some]
  rw [Ln278, aget_nat hs, aget_nat hs, up2_row (by decide), up2_row (by decide), up2_row (by decide), up2_row (by decide)]
  dsimp only [Option.bind_some]
  rw [e1, wr_id (z := gW (sgO O) s) (by omega) (by omega), as2]
  dsimp only [Option.bind_some]
  rw [Ln279, Ln277, aget_nat hs, aget_nat hs, up2_row (by decide), up2_row (by decide), up2_row (by decide), up2_row (by decide), up2_row (by decide), up2_row (by decide)]
  dsimp only [Option.bind_some]
  rw [e2, wr_id (z := gR (sgO O) s) (by omega) (by omega), as3]
  dsimp only [Option.bind_some]
  rw [as4]
  dsimp only [Option.bind_some]
  rw [e3]
  have hO : ∀ O1 : Smo, O1 = up2 (up2 (up2 (up2 (up2 O 270 0 (s : Int)) 270 1 (sga (sgO O) s)) 270 2 (gW (sgO O) s)) 270 3 (gR (sgO O) s)) 270 4 (zrem dv 100) → (∀ k, k ≠ 270 → O1 k = O k) ∧ ∀ i, i < 5 → O1 270 i = arC s (sga (sgO O) s) (gW (sgO O) s) (gR (sgO O) s) (zrem dv 100) i := fun O1 e => by
    subst e
    refine ⟨fun k hk => by rw [up2_row hk, up2_row hk, up2_row hk, up2_row hk, up2_row hk], fun i hi => ?_⟩
    obtain rfl | rfl | rfl | rfl | rfl : i = 0 ∨ i = 1 ∨ i = 2 ∨ i = 3 ∨ i = 4 := by omega
    all_goals simp [up2, arC]
  generalize up2 (up2 (up2 (up2 (up2 O 270 0 (s : Int)) 270 1 (sga (sgO O) s)) 270 2 (gW (sgO O) s)) 270 3 (gR (sgO O) s)) 270 4 (zrem dv 100) = O1 at *
  obtain ⟨p1, p2⟩ := hO O1 rfl
  have p24 : O1 262 24 = O 262 24 := by rw [p1 262 (by decide)]
  rw [p24]
  rcases hF with ⟨f1, rfl⟩ | ⟨f1, f2, f3, f4, f5, f6⟩
  · rw [if_pos f1, ag4, p2 4 (by decide)]
    exact Ret_some ⟨rfl, fun k _ hk => p1 k hk⟩
  · rw [if_neg (c := O 262 24 = 0) (by rw [f1]; decide)]
    obtain ⟨O2, g1, g2, g3⟩ := rf_eval (O := O1) (ar := arC s (sga (sgO O) s) (gW (sgO O) s) (gR (sgO O) s) (zrem dv 100)) (rs := rs) (by rw [p1 262 (by decide)]; exact f2) (by rw [p1 266 (by decide)]; exact f3) (by rw [p1 267 (by decide)]; exact f4) f5 f6 p2
    dsimp only [jn] at g1
    rw [Ln270] at g1
    rw [g1]
    dsimp only [Option.bind_some]
    rw [Ln269]
    have hl := evL_len (ar := arC s (sga (sgO O) s) (gW (sgO O) s) (gR (sgO O) s) (zrem dv 100)) rs 1 f5
    cases he : evL (arC s (sga (sgO O) s) (gW (sgO O) s) (gR (sgO O) s) (zrem dv 100)) rs with
    | nil => rw [he] at hl; simp at hl
    | cons a t =>
      rw [he] at hl g2
      have ht : t = [] := by
        cases t with
        | nil => rfl
        | cons b t => simp at hl
      subst ht
      rw [ag0]
      refine Ret_some ⟨g2.1, fun k h1 h2 => ?_⟩
      dsimp only
      rw [g3 k h1, p1 k h2]
