/-! LEVEL 3, kk: sure, ask -/
theorem lat_first (l : List Int) (a : Int) : lat (l ++ [a]) 0 = if l = [] then a else lat l 0 := by
  cases l <;> rfl
/-- what sure takes of a list -/
def pickL (b : Int) (l : List Nat) : Int := lat (natL l) (if b = 0 then 0 else ((l.length : Int) - 1))
theorem pickL_nil (b : Int) : pickL b [] = -1 := by
  have : ∀ z : Int, lat ([] : List Int) z = -1 := fun z => lat_len (by show z < 0 ∨ ((0 : Nat) : Int) ≤ z; omega)
  exact this _
theorem pickL_s {b : Int} (hb : b = 0 ∨ b = 1) (P : Nat → Bool) (c : Nat) : pickL b (fiL P (c + 1)) = if P c = true then (if pickL b (fiL P c) < 0 ∨ b = 1 then (c : Int) else pickL b (fiL P c)) else pickL b (fiL P c) := by
  rw [fiL_s]
  by_cases q : P c = true
  · rw [if_pos q, if_pos q]
    unfold pickL
    rcases hb with rfl | rfl
    · rw [if_pos rfl, if_pos rfl, natL_app, lat_first]
      cases hl : fiL P c with
      | nil => rfl
      | cons a l =>
        rw [if_neg (by simp [natL]), if_neg]
        rintro (e | e)
        · have : lat (natL (a :: l)) 0 = (a : Int) := rfl
          rw [this] at e; omega
        · omega
    · rw [if_neg (by decide), if_pos (Or.inr rfl), natL_app]
      have := lat_last (natL (fiL P c)) (c : Int)
      rw [List.length_append, natL_len, List.length_singleton] at this
      rw [List.length_append, List.length_singleton]
      exact this
  · rw [if_neg q, if_neg q]
theorem pickL_bd {b : Int} (hb : b = 0 ∨ b = 1) (P : Nat → Bool) : ∀ c, -1 ≤ pickL b (fiL P c) ∧ pickL b (fiL P c) < c
  | 0 => by
    show -1 ≤ pickL b [] ∧ pickL b [] < ((0 : Nat) : Int)
    rw [pickL_nil]; omega
  | c + 1 => by
    have := pickL_bd hb P c
    rw [pickL_s hb]
    split
    · split <;> omega
    · omega
/-- how many of a list have the region s -/
def cntB (B : Nat → Int) (s : Int) (l : List Nat) : Nat := l.countP (fun k => decide (B k = s))
def leftL (B : Nat → Int) (s : Int) (l : List Nat) : Int := if (cntB B s l : Int) < (l.length : Int) - cntB B s l then (l.length : Int) - cntB B s l else cntB B s l
theorem cntB_le (B : Nat → Int) (s : Int) (l : List Nat) : cntB B s l ≤ l.length := List.countP_le_length
/-- the question with the least left -/
def aminL (B : Nat → Int) (l : List Nat) : Nat → Nat
  | 0 => 0
  | c + 1 => if leftL B c l < leftL B (aminL B l c) l then c else aminL B l c
section TOLD3
variable {S S' : Sst} {O O' : Smo} {n ne slots v tp bs ns : Nat} {lo : Nat → Nat}
theorem cl_left {l : List Nat} {B : Nat → Int} (h : S.1 252 = l.map B) (hl : l.length ≤ 61) (s : Int) : f_X9_leftBy s S = some (leftL B s l) := by
  have hsz : f_X6_size 252 S = (l.length : Int) := by
    unfold f_X6_size
    rw [h, List.length_map]
  unfold f_X9_leftBy
  refine Ret_eq (Ret_bind (P := fun r => r = (cntB B s l : Int)) (Ret_lp (fun c q => q = ((cntB B s (l.take c) : Int), (c : Int))) l.length (by omega) (by simp [cntB]) (fun c q hc hI => ?_) (fun q hI => ?_)) (fun r hr => ?_))
  · subst hI
    dsimp only [jn]
    have hle := cntB_le B s (l.take c)
    rw [List.length_take] at hle
    have hat : f_X6_at 252 (c : Int) S = B (l.getD c 0) := by
      unfold f_X6_at lat
      rw [h, if_pos (by omega)]
      simp [hc]
    have htk : l.take (c + 1) = l.take c ++ [l.getD c 0] := by
      rw [List.take_add_one]
      simp [hc]
    have hcn : cntB B s (l.take (c + 1)) = cntB B s (l.take c) + if B (l.getD c 0) = s then 1 else 0 := by
      rw [htk]
      unfold cntB
      rw [List.countP_append]
      simp [List.countP_cons]
    rw [hsz, if_pos (by omega), hat]
    refine Ret_some ⟨_, rfl, ?_⟩
    rw [hcn]
    split
    · rw [wr_id (by omega) (by omega), wr_id (by omega) (by omega)]; simp
    · rw [wr_id (by omega) (by omega), wr_id (by omega) (by omega)]; simp
  · subst hI
    dsimp only
    rw [hsz, if_neg (by omega)]
    exact Ret_some ⟨_, rfl, by rw [List.take_length]⟩
  · subst hr
    have hle := cntB_le B s l
    rw [hsz, wr_id (by omega) (by omega)]
    exact Ret_some rfl
theorem rf_left {P : Nat → Bool} {B : Nat → Int} (h : ∀ (k : Nat), k < 61 → O 302 k = B k ∧ O 303 k = if P k = true then 1 else 0) (s : Int) : f_X12_leftBy s ((fiL P 61).length : Int) O = some (leftL B s (fiL P 61)) := by
  unfold f_X12_leftBy
  refine Ret_eq (Ret_bind (P := fun r => r = (cntB B s (fiL P 61) : Int)) (Ret_lp (fun c q => q = ((cntB B s (fiL P c) : Int), (c : Int))) 61 (by decide) rfl (fun c q hc hI => ?_) (fun q hI => ?_)) (fun r hr => ?_))
  · subst hI
    have hle := cntB_le B s (fiL P c)
    have hl := fiL_len P c
    dsimp only [jn]
    rw [if_neg (by omega), Ln303, Ln302, aget_nat hc, aget_nat hc, (h c hc).1, (h c hc).2, fiL_s]
    dsimp only [Option.bind_some]
    rw [wr_id (z := (c : Int) + 1) (by omega) (by omega)]
    by_cases q : P c = true
    · have hcn : cntB B s (fiL P c ++ [c]) = cntB B s (fiL P c) + if B c = s then 1 else 0 := by
        unfold cntB
        rw [List.countP_append]
        simp [List.countP_cons]
      rw [if_pos q, if_pos q, if_neg (show ¬ (1 : Int) = 0 by decide), hcn]
      by_cases r : B c = s
      · rw [if_pos r, if_pos r]
        dsimp only [Option.bind_some]
        rw [show f_X12_truth 1 = 1 from rfl, wr_id (by omega) (by omega)]
        exact Ret_some ⟨_, rfl, by simp⟩
      · rw [if_neg r, if_neg r]
        dsimp only [Option.bind_some]
        rw [show f_X12_truth 0 = 0 from rfl, wr_id (by omega) (by omega)]
        exact Ret_some ⟨_, rfl, by simp⟩
    · rw [if_neg q, if_neg q, if_pos rfl]
      dsimp only [Option.bind_some]
      rw [show f_X12_truth 0 = 0 from rfl, wr_id (by omega) (by omega)]
      exact Ret_some ⟨_, rfl, by simp⟩
  · subst hI
    dsimp only
    rw [if_pos (by omega)]
    exact Ret_some ⟨_, rfl, rfl⟩
  · subst hr
    have hle := cntB_le B s (fiL P 61)
    have hl := fiL_len P 61
    unfold f_X12_greater leftL
    rw [wr_id (by omega) (by omega)]
    refine Ret_some ?_
    split <;> split <;> omega
theorem op_sure {S : Sst} {O : Smo} (h : Inv S O) (up b t : Int) : Op2 (f_X11_sure up b t S) (f_X12_sure up b t O) := by
  have hI := h
  obtain ⟨n, ne, slots, lo, v, tp, bs, h1, h2, h3, h4, h5, h6, h7, h8⟩ := h
  obtain ⟨ns, hT⟩ := Tol_of h8
  unfold f_X11_sure f_X12_sure
  rw [isH]
  dsimp only [jn, jk]
  by_cases hb : b < 0 ∨ 1 < b
  · rw [if_pos hb, if_pos (Or.inr (by unfold f_X12_isIn; rw [if_pos hb]))]
    exact ⟨_, _, _, rfl, rfl, hI⟩
  · have hb' : b = 0 ∨ b = 1 := by omega
    rw [if_neg hb]
    by_cases hup : -9 ≤ up ∧ up ≤ 99
    · obtain ⟨⟨r, S'⟩, e1, rfl, a1, a2, a3, a4⟩ := cl_gather (t := t) h4 hT hup
      obtain ⟨⟨w, O'⟩, e2, rfl, b1, b2⟩ := rf_fits (t := t) h4.2.1 h4.2.2.2.2.1 hT.2.2.2.2.1 hT.2.2.2.2.2.1 hT.2.2.2.2.2.2 hup
      dsimp only at *
      have hfr := Inv_gat hI a3 a4 b2
      rw [e1, e2, if_pos hup, if_neg (c := (1 : Int) = 0 ∨ _) (by unfold f_X12_isIn; rw [if_neg hb]; omega)]
      dsimp only [Option.bind_some]
      rw [if_neg (show ¬ (1 : Int) = 0 by decide)]
      have hl := fiL_len (fitP O t up n ns) 61
      have hsz : f_X6_size 250 S' = ((fiL (fitP O t up n ns) 61).length : Int) := by
        unfold f_X6_size
        rw [a1, natL_len]
      have hpk : f_X6_at 250 (if b = 0 then 0 else wr (f_X6_size 250 S' - 1)) S' = pickL b (fiL (fitP O t up n ns) 61) := by
        unfold f_X6_at pickL
        rw [hsz, a1, wr_id (by omega) (by omega)]
      rw [hpk]
      by_cases c0 : ((fiL (fitP O t up n ns) 61).length : Int) = 0
      · rw [if_pos c0]
        have : fiL (fitP O t up n ns) 61 = [] := List.length_eq_zero_iff.mp (by omega)
        rw [this, pickL_nil]
        exact ⟨_, _, _, rfl, rfl, hfr⟩
      · rw [if_neg c0]
        have key : lp (fun (s10511 : Int × Int) =>
        if 60 < s10511.2 then
          (some (Sum.inr s10511.1))
        else
          (Option.bind (aget (O' 303) (Ln 303) s10511.2) fun (v10518 : Int) =>
          jn (
            if v10518 = 0 then
              (s10511.1)
            else
              (if (s10511.1 < 0 ∨ b = 1) then
                (s10511.2)
              else
                (s10511.1))) fun (q10520 : Int) =>
          some (Sum.inl (q10520, wr (s10511.2 + 1))))) FU ((-1), 0) = some (pickL b (fiL (fitP O t up n ns) 61)) := by
          refine Ret_eq (Ret_lp (fun c q => q = (pickL b (fiL (fitP O t up n ns) c), (c : Int))) 61 (by decide) (by show _ = (pickL b [], _); rw [pickL_nil]; rfl) (fun c q hc hI => ?_) (fun q hI => ?_))
          · subst hI
            dsimp only [jn]
            rw [if_neg (by omega), Ln303, aget_nat hc, (b1 c hc).2]
            dsimp only [Option.bind_some]
            rw [wr_id (by omega) (by omega), pickL_s hb']
            by_cases q : fitP O t up n ns c = true
            · rw [if_pos q, if_pos q, if_neg (show ¬ (1 : Int) = 0 by decide)]
              exact Ret_some ⟨_, rfl, by simp⟩
            · rw [if_neg q, if_neg q, if_pos rfl]
              exact Ret_some ⟨_, rfl, by simp⟩
          · subst hI
            dsimp only
            rw [if_pos (by omega)]
            exact Ret_some ⟨_, rfl, rfl⟩
        dsimp only [jn] at key
        rw [key]
        exact ⟨_, _, _, rfl, rfl, hfr⟩
    · obtain ⟨S', e1, a3, a4⟩ := cl_gather_out (S := S) (t := t) hup
      rw [e1, if_neg hup, if_pos (Or.inl rfl)]
      dsimp only [Option.bind_some]
      rw [if_pos rfl]
      exact ⟨_, _, _, rfl, rfl, Inv_gat hI a3 a4 (fun _ _ _ => rfl)⟩
theorem op_ask {S : Sst} {O : Smo} (h : Inv S O) (up b t : Int) : Op2 (f_X11_ask up b t S) (f_X12_ask up b t O) := by
  have hI := h
  obtain ⟨n, ne, slots, lo, v, tp, bs, h1, h2, h3, h4, h5, h6, h7, h8⟩ := h
  obtain ⟨ns, hT⟩ := Tol_of h8
  have hn8 := h4.2.1.1
  unfold f_X11_ask f_X12_ask
  rw [isH]
  dsimp only [jn, jk]
  by_cases hb : b < 0 ∨ 1 < b
  · rw [if_pos hb, if_pos (Or.inl (Or.inr (by unfold f_X12_isIn; rw [if_pos hb])))]
    exact ⟨_, _, _, rfl, rfl, hI⟩
  · have hb' : b = 0 ∨ b = 1 := by omega
    rw [if_neg hb]
    by_cases hup : -9 ≤ up ∧ up ≤ 99
    · obtain ⟨⟨r, S'⟩, e1, rfl, a1, a2, a3, a4⟩ := cl_gather (t := t) h4 hT hup
      obtain ⟨⟨w, O'⟩, e2, rfl, b1, b2⟩ := rf_fits (t := t) h4.2.1 h4.2.2.2.2.1 hT.2.2.2.2.1 hT.2.2.2.2.2.1 hT.2.2.2.2.2.2 hup
      dsimp only at *
      have hfr := Inv_gat hI a3 a4 b2
      have hfr0 := Inv_gat (O' := O) hI a3 a4 (fun _ _ _ => rfl)
      have hl := fiL_len (fitP O t up n ns) 61
      have hsz : f_X6_size 250 S' = ((fiL (fitP O t up n ns) 61).length : Int) := by
        unfold f_X6_size
        rw [a1, natL_len]
      have hct : f_X4_count 29 S' = (n : Int) := by
        unfold f_X4_count
        exact size_rg (by rw [a3 _ (by decide) (by decide)]; exact h4.1.1.1)
      have hleft : ∀ s, f_X9_leftBy s S' = some (leftL (fun (k : Nat) => blN (sgO O) k up n) s (fiL (fitP O t up n ns) 61)) := cl_left a2 hl
      have hleft2 : ∀ s, f_X12_leftBy s ((fiL (fitP O t up n ns) 61).length : Int) O' = some (leftL (fun (k : Nat) => blN (sgO O) k up n) s (fiL (fitP O t up n ns) 61)) := rf_left b1
      generalize (fun (k : Nat) => blN (sgO O) k up n) = B at *
      generalize fiL (fitP O t up n ns) 61 = L at *
      have hbest : f_X9_bestQuestion S' = some (if n = 0 ∨ L.length = 0 then -1 else (aminL B L n : Int)) := by
        unfold f_X9_bestQuestion
        refine Ret_eq (Ret_bind (P := fun r => r = if n = 0 ∨ L.length = 0 then -1 else (aminL B L n : Int)) ?_ (fun r hr => Ret_some hr))
        by_cases z : L.length = 0
        · rw [if_pos (Or.inr z)]
          refine Ret_lp (fun c q => q.1 = -1) 0 (by decide) rfl (fun c q hc => by omega) (fun q hI => ?_)
          rw [if_neg (by rw [hsz]; omega)]
          exact Ret_some ⟨_, rfl, hI⟩
        · refine Ret_lp (fun c q => q.2.2 = (c : Int) ∧ ((c = 0 ∧ q.1 = -1) ∨ (0 < c ∧ q.1 = (aminL B L c : Int) ∧ q.2.1 = leftL B (aminL B L c) L))) n (by omega) ⟨rfl, Or.inl ⟨rfl, rfl⟩⟩ (fun c q hc hI => ?_) (fun q hI => ?_)
          · obtain ⟨x, y, w⟩ := q
            obtain ⟨e, hI⟩ := hI
            dsimp only [jn] at *
            subst e
            rw [if_pos (by rw [hct, hsz]; omega), hleft]
            dsimp only [Option.bind_some]
            rw [wr_id (by omega) (by omega)]
            refine Ret_some ⟨_, rfl, by simp, Or.inr ⟨by omega, ?_⟩⟩
            rw [aminL]
            rcases hI with ⟨rfl, rfl⟩ | ⟨c0, rfl, rfl⟩
            · rw [if_pos (Or.inl rfl), if_neg]
              · exact ⟨rfl, rfl⟩
              · show ¬ leftL B ((0 : Nat) : Int) L < leftL B ((0 : Nat) : Int) L
                omega
            · by_cases q : leftL B c L < leftL B (aminL B L c) L
              · rw [if_pos (Or.inr q), if_pos q]
                exact ⟨rfl, rfl⟩
              · rw [if_neg (by rintro (a | a); omega; exact q a), if_neg q]
                exact ⟨rfl, rfl⟩
          · obtain ⟨x, y, w⟩ := q
            obtain ⟨e, hI⟩ := hI
            dsimp only at *
            subst e
            rw [if_neg (by rw [hct]; omega)]
            refine Ret_some ⟨_, rfl, ?_⟩
            rcases hI with ⟨z1, z2⟩ | ⟨z1, z2, z3⟩
            · rw [if_pos (Or.inl z1), z2]
            · rw [if_neg (by omega), z2]
      rw [e1, if_pos hup]
      dsimp only [Option.bind_some]
      rw [if_neg (show ¬ (1 : Int) = 0 by decide), hbest]
      dsimp only [Option.bind_some]
      have h39 : O 262 39 = (n : Int) := h4.2.2.2.2.1
      by_cases n0 : n = 0
      · rw [if_pos (c := n = 0 ∨ _) (Or.inl n0), if_pos (Or.inr rfl), if_pos (Or.inr (by rw [h39, n0]; rfl))]
        exact ⟨_, _, _, rfl, rfl, hfr0⟩
      · rw [if_neg (c := ((1 : Int) = 0 ∨ _) ∨ _) (by unfold f_X12_isIn; rw [if_neg hb, h39]; omega), e2]
        dsimp only [Option.bind_some]
        by_cases c0 : L.length = 0
        · rw [if_pos (c := n = 0 ∨ _) (Or.inr c0), if_pos (Or.inr rfl), if_pos (by omega)]
          exact ⟨_, _, _, rfl, rfl, hfr⟩
        · have key : lp (fun (s10645 : Int × Int) =>
        if s10645.2 < O' 262 39 then
          (Option.bind (f_X12_leftBy s10645.2 (L.length : Int) O') fun (q10654 : Int) =>
          Option.bind (f_X12_leftBy s10645.1 (L.length : Int) O') fun (q10657 : Int) =>
          jn (
            if q10654 < q10657 then
              (s10645.2)
            else
              (s10645.1)) fun (q10659 : Int) =>
          some (Sum.inl (q10659, wr (s10645.2 + 1))))
        else
          (some (Sum.inr s10645.1))) FU (0, 1) = some (aminL B L n : Int) := by
            refine Ret_eq (Ret_lp (fun c q => q = ((aminL B L (c + 1) : Int), ((c + 1 : Nat) : Int))) (n - 1) (by omega) (by rw [aminL, if_neg (by show ¬ leftL B ((0 : Nat) : Int) L < leftL B ((0 : Nat) : Int) L; omega)]; rfl) (fun c q hc hI => ?_) (fun q hI => ?_))
            · subst hI
              dsimp only [jn]
              rw [if_pos (by rw [b2 262 (by decide) (by decide), h39]; omega), hleft2, hleft2]
              dsimp only [Option.bind_some]
              rw [wr_id (by omega) (by omega)]
              refine Ret_some ⟨_, rfl, ?_⟩
              rw [aminL.eq_2 B L (c + 1)]
              by_cases q : leftL B ((c + 1 : Nat) : Int) L < leftL B (aminL B L (c + 1)) L
              · rw [if_pos q, if_pos q]; rfl
              · rw [if_neg q, if_neg q]; rfl
            · subst hI
              dsimp only
              rw [if_neg (by rw [b2 262 (by decide) (by decide), h39]; omega)]
              exact Ret_some ⟨_, rfl, by rw [show n - 1 + 1 = n by omega]⟩
          dsimp only [jn] at key
          rw [if_neg (c := (L.length : Int) = 0) (by omega), key, if_neg (c := n = 0 ∨ L.length = 0) (by omega)]
          dsimp only [Option.bind_some]
          rcases hb' with rfl | rfl
          · rw [if_pos (Or.inl rfl), if_pos rfl]
            exact ⟨_, _, _, rfl, rfl, hfr⟩
          · rw [if_neg (c := (1 : Int) = 0 ∨ _) (by omega), if_neg (show ¬ (1 : Int) = 0 by decide), hleft, hleft2]
            exact ⟨_, _, _, rfl, rfl, hfr⟩
    · obtain ⟨S', e1, a3, a4⟩ := cl_gather_out (S := S) (t := t) hup
      rw [e1, if_neg hup, if_pos (Or.inl (Or.inl rfl))]
      dsimp only [Option.bind_some]
      rw [if_pos rfl]
      exact ⟨_, _, _, rfl, rfl, Inv_gat hI a3 a4 (fun _ _ _ => rfl)⟩
end TOLD3
