/-! LEVEL 3, f: the class builds the tree -/
def Fr (ks : List Nat) (js : List (Nat × Nat)) (S S' : Sst) : Prop := (∀ k, k ∉ ks → S'.1 k = S.1 k) ∧ ∀ k j, (k, j) ∉ js → S'.2 k j = S.2 k j
theorem Fr_refl (ks : List Nat) (js : List (Nat × Nat)) (S : Sst) : Fr ks js S S := ⟨fun _ _ => rfl, fun _ _ _ => rfl⟩
theorem Fr_trans {ks : List Nat} {js : List (Nat × Nat)} {S S' S'' : Sst} (h1 : Fr ks js S S') (h2 : Fr ks js S' S'') : Fr ks js S S'' := ⟨fun k hk => by rw [h2.1 k hk, h1.1 k hk], fun k j hk => by rw [h2.2 k j hk, h1.2 k j hk]⟩
theorem Fr_mono {ks ks' : List Nat} {js js' : List (Nat × Nat)} {S S' : Sst} (h : Fr ks js S S') (h1 : ∀ k ∈ ks, k ∈ ks') (h2 : ∀ k ∈ js, k ∈ js') : Fr ks' js' S S' := ⟨fun k hk => h.1 k (fun q => hk (h1 k q)), fun k j hk => h.2 k j (fun q => hk (h2 _ q))⟩
theorem Fr_upR {ks : List Nat} {js : List (Nat × Nat)} {S S' : Sst} {p : Nat} {l : List Int} (h : Fr ks js S S') (hp : p ∈ ks) : Fr ks js S (upR S' p l) := ⟨fun k hk => by rw [upR_ne _ _ (fun e : k = p => hk (e ▸ hp)), h.1 k hk], h.2⟩
theorem Fr_upS {ks : List Nat} {js : List (Nat × Nat)} {S S' : Sst} {k j : Nat} {v : Int} (h : Fr ks js S S') (hp : (k, j) ∈ js) : Fr ks js S (upS S' k j v) := ⟨h.1, fun a b hk => by
  show up2 S'.2 k j v a b = _
  rw [up2_ne, h.2 a b hk]
  by_cases e : a = k
  · exact Or.inr (fun e2 => hk (by rw [e, e2]; exact hp))
  · exact Or.inl e⟩
theorem put_rg {S : Sst} {q n k : Nat} {f : Nat → Int} {v : Int} (h : S.1 q = rg n f) : f_X6_put q (k : Int) v S = upR S q (rg n (updI f k v)) := by
  unfold f_X6_put
  rw [if_pos (by omega), h, Int.toNat_natCast, rg_set]
  rfl
theorem put_neg {S : Sst} {q : Nat} {z v : Int} (h : z < 0) : f_X6_put q z v S = S := by
  unfold f_X6_put
  rw [if_neg (by omega), upR_self]
theorem add_rg {S : Sst} {q n : Nat} {f : Nat → Int} {v : Int} (h : S.1 q = rg n f) (hn : n < Ln (q + 1)) : f_X6_add q v S = upR S q (rg (n + 1) (updI f n v)) := by
  unfold f_X6_add
  rw [h, rg_len, if_pos hn, rg_app]
  rfl
theorem upd_same (f : Nat → Int) (k : Nat) (v : Int) : updI f k v k = v := by unfold updI; rw [if_pos rfl]
theorem upd_ne {f : Nat → Int} {k j : Nat} {v : Int} (h : j ≠ k) : updI f k v j = f j := by unfold updI; rw [if_neg h]
-- stacks
def stR (st : List Nat) : List Int := st.reverse.map (fun (k : Nat) => (k : Int))
theorem stR_cons (s : Nat) (st : List Nat) : stR (s :: st) = stR st ++ [(s : Int)] := by simp [stR]
theorem stR_len (st : List Nat) : (stR st).length = st.length := by simp [stR]
theorem lat_last (l : List Int) (a : Int) : lat (l ++ [a]) (((l ++ [a]).length : Int) - 1) = a := by
  unfold lat
  rw [List.length_append, List.length_singleton, if_pos (by omega)]
  have : ((((l.length + 1 : Nat) : Int)) - 1).toNat = l.length := by omega
  rw [this]
  simp
theorem last_st {S : Sst} {q s : Nat} {st : List Nat} (h : S.1 q = stR (s :: st)) : f_X6_last q S = s := by
  unfold f_X6_last
  rw [h, stR_cons, lat_last]
theorem last_nil {S : Sst} {q : Nat} (h : S.1 q = stR []) : f_X6_last q S = -1 := by
  unfold f_X6_last
  rw [h]
  rfl
theorem take_st {S : Sst} {q s : Nat} {st : List Nat} (h : S.1 q = stR (s :: st)) : f_X6_takeLast q S = ((s : Int), upR S q (stR st)) := by
  unfold f_X6_takeLast
  rw [h, stR_cons, lat_last]
  simp
theorem add_st {S : Sst} {q x : Nat} {st : List Nat} (h : S.1 q = stR st) (hl : st.length < Ln (q + 1)) : f_X6_add q (x : Int) S = upR S q (stR (x :: st)) := by
  unfold f_X6_add
  rw [h, stR_len, if_pos hl, stR_cons]
theorem lat_bot : ∀ st : List Nat, lat (stR st) 0 = botJ st
  | [] => rfl
  | [s] => rfl
  | a :: s :: st => by
    rw [stR_cons]
    have ih := lat_bot (s :: st)
    have hl : 0 < (stR (s :: st)).length := by rw [stR_len]; simp
    unfold lat at ih ⊢
    rw [if_pos (by omega)] at ih ⊢
    rw [show botJ (a :: s :: st) = botJ (s :: st) from rfl, ← ih]
    have h0 : Int.toNat 0 = 0 := rfl
    rw [h0, List.getD_eq_getElem?_getD, List.getElem?_append_left hl, ← List.getD_eq_getElem?_getD]
abbrev natL (l : List Nat) : List Int := l.map (fun (k : Nat) => (k : Int))
theorem natL_len (l : List Nat) : (natL l).length = l.length := by simp
theorem lat_natL {l : List Nat} {i k : Nat} (h : l[i]? = some k) : lat (natL l) (i : Int) = k := by
  unfold lat
  rw [if_pos (by omega)]
  simp [List.getD_eq_getElem?_getD, h]
theorem cl_order {S : Sst} {g : Sg} {n m : Nat} {x : Int} {lo : Nat → Nat} (h42 : S.1 42 = rg n (fun k => (lo k : Int))) (hlo : ∀ k, k < n → lowB g n k (lo k)) (hg : OkSeg g n) (ho : Over g n m x) :
    Ret (f_X10_order m S) (fun S' => Fr [60] [] S S' ∧ S'.1 60 = natL (rowF g m x)) := by
  have hm := ho.1
  have hpl := pc_le m
  unfold f_X10_order
  dsimp only [jn, jk]
  rw [pc_n hm]
  have hf : f_X6_fill 60 ((pc m : Nat) : Int) (-1) S = upR S 60 (rg (pc m) (fun _ => -1)) := by
    unfold f_X6_fill
    rw [Ln61, Int.toNat_natCast, Nat.min_eq_left hpl, rg_rep]
  rw [hf]
  refine Ret_bind (Ret_lp (fun c st => st.1 = (c : Int) ∧ Fr [60] [] S st.2 ∧ ∃ h, st.2.1 60 = rg (pc m) h ∧ ∀ j k, (rowF g m x)[j]? = some k → k < c → h j = k) 8 (by decide) ⟨rfl, Fr_upR (Fr_refl _ _ _) (by simp), _, upR_at _ _ _, fun j k _ hk => by omega⟩ (fun c st hc hI => ?_) (fun st hI => ?_) (Q := fun S' => Fr [60] [] S S' ∧ S'.1 60 = natL (rowF g m x))) (fun r hr => Ret_some hr)
  · obtain ⟨z, S1⟩ := st
    obtain ⟨rfl, hfr, h, h60, hh⟩ := hI
    dsimp only at *
    rw [if_pos (by omega), bit_n hm hc, wr_id (by omega) (by omega)]
    refine Ret_some ⟨_, rfl, rfl, ?_⟩
    dsimp only
    by_cases hb : m.testBit c = true
    · rw [bt_1.mpr hb, if_neg (by decide)]
      have hcn := (ho.2 c hb).1
      have h42' : S1.1 42 = rg n (fun k => (lo k : Int)) := by rw [hfr.1 42 (by simp), h42]
      have hl := hlo c hcn
      have hle : lo c &&& m < 256 := Nat.lt_of_le_of_lt Nat.and_le_left hl.1
      rw [at_nat h42' hcn, zand_n hl.1 hm, pc_n hle]
      obtain ⟨i, hi⟩ := List.mem_iff_getElem?.mp ((rowF_mem hg ho).mpr hb)
      rw [rowF_pos hg ho hi hl, put_rg h60]
      refine ⟨Fr_upR hfr (by simp), _, upR_at _ _ _, fun j k hj hk => ?_⟩
      by_cases e : j = i
      · subst e
        rw [upd_same]
        rw [hi] at hj
        rw [Option.some.inj hj]
      · rw [upd_ne e]
        refine hh j k hj ?_
        have : k ≠ c := fun q => by
          subst q
          exact e (((rowF_pos hg ho hj hl).symm.trans (rowF_pos hg ho hi hl)))
        omega
    · rw [bt_0.mpr (by simpa using hb), if_pos rfl]
      refine ⟨hfr, h, h60, fun j k hj hk => hh j k hj ?_⟩
      have := (rowF_mem hg ho).mp (List.mem_of_getElem? hj)
      have : k ≠ c := fun q => hb (q ▸ this)
      omega
  · obtain ⟨z, S1⟩ := st
    obtain ⟨rfl, hfr, h, h60, hh⟩ := hI
    dsimp only at *
    rw [if_neg (by omega)]
    refine Ret_some ⟨_, rfl, hfr, ?_⟩
    rw [h60, show natL (rowF g m x) = _ from rg_map, rowF_len hg ho]
    refine rg_ext (fun j hj => ?_)
    have hj2 : j < (rowF g m x).length := by rw [rowF_len hg ho]; exact hj
    have hk : (rowF g m x)[j]? = some ((rowF g m x).getD j 0) := by simp [hj2]
    have hmem := (ho.2 _ ((rowF_mem hg ho).mp (List.mem_of_getElem? hk))).1
    have := hg.1
    exact hh j _ hk (by omega)
theorem cl_heavy {S : Sst} {n x s : Nat} {w : Nat → Int} (h44 : S.1 44 = rg n w) (hx : x < n) (hs : s < n) : f_X10_isHeavier x s S = if hvb w x s = true then 1 else 0 := by
  unfold f_X10_isHeavier hvb
  dsimp only [jn, jk]
  rw [if_neg (by omega), at_nat h44 hx, at_nat h44 hs]
  by_cases c1 : w s < w x
  · rw [if_pos c1, if_pos (by simp; omega)]
  · rw [if_neg c1]
    by_cases c2 : w x = w s ∧ x < s
    · rw [if_pos (by omega), if_pos (by simp; omega)]
    · rw [if_neg (by omega), if_neg (by simp; omega)]
theorem cl_heavy_n {S : Sst} {x : Int} : f_X10_isHeavier x (-1) S = 0 := by
  unfold f_X10_isHeavier
  rw [if_pos rfl]
theorem foldl_take {α β : Type} (f : β → α → β) (b : β) (l : List α) {i : Nat} {a : α} (h : l[i]? = some a) : (l.take (i + 1)).foldl f b = f ((l.take i).foldl f b) a := by
  obtain ⟨hi, e⟩ := List.getElem?_eq_some_iff.mp h
  rw [List.take_succ_eq_append_getElem hi, List.foldl_append, e]
  rfl
theorem popJ_len {w : Nat → Int} {x : Nat} : ∀ (st : List Nat) (t : Int), (popJ w x st t).2.length ≤ st.length ∧ ∀ y ∈ (popJ w x st t).2, y ∈ st
  | [], t => ⟨Nat.le_refl _, fun y hy => hy⟩
  | s :: st, t => by
    unfold popJ
    split
    · have := popJ_len (w := w) (x := x) st s
      exact ⟨by simp; omega, fun y hy => by simp [this.2 y hy]⟩
    · exact ⟨Nat.le_refl _, fun y hy => hy⟩
theorem stkJ_len (w : Nat → Int) (r : List Nat) : ∀ i, i ≤ r.length → (joinJ w (r.take i)).2.2.length ≤ i ∧ ∀ y ∈ (joinJ w (r.take i)).2.2, y ∈ r
  | 0, _ => ⟨by simp [joinJ], fun y hy => by simp [joinJ] at hy⟩
  | i + 1, hi => by
    have h : r[i]? = some r[i] := by simp [show i < r.length by omega]
    obtain ⟨h1, h2⟩ := stkJ_len w r i (by omega)
    unfold joinJ at *
    rw [foldl_take _ _ _ h]
    generalize (r.take i).foldl (stepJ w) (fun _ => -1, fun _ => -1, []) = q at *
    unfold stepJ
    dsimp only
    have := popJ_len (w := w) (x := r[i]) q.2.2 (-1)
    refine ⟨by simp; omega, fun y hy => ?_⟩
    rcases List.mem_cons.mp hy with rfl | hy
    · simp
    · exact h2 y (this.2 y hy)
theorem cl_join {S : Sst} {n : Nat} {w : Nat → Int} {r : List Nat} (h60 : S.1 60 = natL r) (h44 : S.1 44 = rg n w) (hn : n ≤ 8) (hr : ∀ y ∈ r, y < n) (hl : r.length ≤ 8) :
    Ret (f_X10_join S) (fun S' => Fr [62, 64, 70] [(59, 5)] S S' ∧ S'.1 62 = rg 8 (tL w r) ∧ S'.1 64 = rg 8 (tR w r) ∧ S'.2 59 5 = tRoot w r) := by
  unfold f_X10_join
  dsimp only [jn, jk]
  have hf : ∀ (q : Nat) (S : Sst), Ln (q + 1) = 8 → f_X6_fill q 8 (-1) S = upR S q (rg 8 (fun _ => -1)) := fun q S hq => by
    unfold f_X6_fill
    rw [hq, show min (8 : Int).toNat 8 = 8 from rfl, rg_rep]
  rw [hf 62 S Ln63, hf 64 _ Ln65]
  refine Ret_bind (P := fun S' => Fr [62, 64, 70] [(59, 5)] S S' ∧ S'.1 62 = rg 8 (tL w r) ∧ S'.1 64 = rg 8 (tR w r) ∧ S'.1 70 = stR (joinJ w r).2.2) (Ret_lp (fun c st => st.1 = (c : Int) ∧ Fr [62, 64, 70] [(59, 5)] S st.2 ∧ st.2.1 62 = rg 8 (joinJ w (r.take c)).1 ∧ st.2.1 64 = rg 8 (joinJ w (r.take c)).2.1 ∧ st.2.1 70 = stR (joinJ w (r.take c)).2.2) r.length (by omega) ⟨rfl, Fr_upR (Fr_upR (Fr_upR (Fr_refl _ _ _) (by simp)) (by simp)) (by simp), ?_, ?_, ?_⟩ (fun c st hc hI => ?_) (fun st hI => ?_)) (fun S' hS' => ?_)
  · unfold f_X6_clear
    rw [upR_ne _ _ (by decide), upR_ne _ _ (by decide), upR_at]
    simp [joinJ]
  · unfold f_X6_clear
    rw [upR_ne _ _ (by decide), upR_at]
    simp [joinJ]
  · unfold f_X6_clear
    rw [upR_at]
    simp [joinJ, stR]
  · obtain ⟨z, S1⟩ := st
    obtain ⟨rfl, hfr, h62, h64, h70⟩ := hI
    dsimp only at *
    have hrc : r[c]? = some (r[c]'hc) := by simp [hc]
    have h60' : S1.1 60 = natL r := by rw [hfr.1 60 (by simp), h60]
    have h44' : S1.1 44 = rg n w := by rw [hfr.1 44 (by simp), h44]
    have hat : f_X6_at 60 (c : Int) S1 = ((r[c]'hc : Nat) : Int) := by
      unfold f_X6_at
      rw [h60', lat_natL hrc]
    have hsz : f_X6_size 60 S1 = r.length := by
      unfold f_X6_size
      rw [h60', natL_len]
    rw [hsz, if_pos (by omega), hat]
    have hxn : r[c]'hc < n := hr _ (List.getElem_mem hc)
    generalize hx : r[c]'hc = x at *
    have hst := stkJ_len w r c (by omega)
    have hjj : joinJ w (r.take (c + 1)) = stepJ w (joinJ w (r.take c)) x := by
      unfold joinJ
      exact foldl_take _ _ _ hrc
    rw [hjj]
    unfold stepJ
    dsimp only
    generalize joinJ w (r.take c) = q0 at *
    obtain ⟨L0, R0', st0⟩ := q0
    dsimp only at *
    refine Ret_bind (P := fun q => q.1 = (popJ w x st0 (-1)).1 ∧ Fr [70] [] S1 q.2 ∧ q.2.1 70 = stR (popJ w x st0 (-1)).2) (Ret_lpm (fun q => ∃ stk k, q.2.1 = ((k : Nat) : Int) ∧ Fr [70] [] S1 q.2.2 ∧ q.2.2.1 70 = stR stk ∧ k + stk.length ≤ 7 ∧ popJ w x stk q.1 = popJ w x st0 (-1) ∧ ∀ y ∈ stk, y ∈ r) (fun q => 10 - q.2.1.toNat) ⟨st0, 0, rfl, Fr_refl _ _ _, h70, by omega, rfl, hst.2⟩ (by dsimp only; omega) (fun q hq => ?_)) (fun q hq => ?_)
    · obtain ⟨t, kk, S2⟩ := q
      obtain ⟨stk, k, rfl, hfr2, hk70, hkl, hpop, hmem⟩ := hq
      dsimp only at *
      have h44'' : S2.1 44 = rg n w := by rw [hfr2.1 44 (by simp), h44']
      cases stk with
      | nil =>
        rw [last_nil hk70, cl_heavy_n, if_neg (by omega)]
        refine Ret_some (Or.inr ⟨_, rfl, ?_, hfr2, ?_⟩)
        · rw [← hpop]; rfl
        · rw [← hpop]; exact hk70
      | cons s stk =>
        have hsn : s < n := hr s (hmem s (by simp))
        simp only [List.length_cons] at hkl
        rw [last_st hk70, cl_heavy h44'' hxn hsn]
        by_cases hh : hvb w x s = true
        · rw [if_pos hh, if_pos ⟨by omega, by decide⟩, take_st hk70]
          dsimp only
          rw [wr_id (by omega) (by omega)]
          refine Ret_some (Or.inl ⟨_, rfl, ⟨stk, k + 1, by simp, Fr_upR hfr2 (by simp), upR_at _ _ _, by omega, ?_, fun y hy => hmem y (by simp [hy])⟩, by dsimp only; omega⟩)
          rw [← hpop]
          show _ = popJ w x (s :: stk) t
          rw [popJ, if_pos hh]
        · rw [if_neg hh, if_neg (by simp)]
          have : popJ w x (s :: stk) t = (t, s :: stk) := by rw [popJ, if_neg hh]
          refine Ret_some (Or.inr ⟨_, rfl, ?_, hfr2, ?_⟩)
          · rw [← hpop, this]
          · rw [← hpop, this]; exact hk70
    · obtain ⟨t, S2⟩ := q
      obtain ⟨e1, hfr2, hk70⟩ := hq
      dsimp only at *
      subst e1
      have hpl := popJ_len (w := w) (x := x) st0 (-1)
      generalize popJ w x st0 (-1) = pj at *
      obtain ⟨t, stk⟩ := pj
      dsimp only at *
      have h62' : S2.1 62 = rg 8 L0 := by rw [hfr2.1 62 (by simp), h62]
      have h64' : S2.1 64 = rg 8 R0' := by rw [hfr2.1 64 (by simp), h64]
      have hfr' : Fr [62, 64, 70] [(59, 5)] S S2 := Fr_trans hfr (Fr_mono hfr2 (by simp) (by simp))
      rw [put_rg h62', wr_id (by omega) (by omega)]
      have e70 : (upR S2 62 (rg 8 (updI L0 x t))).1 70 = stR stk := by rw [upR_ne _ _ (by decide), hk70]
      have e64 : (upR S2 62 (rg 8 (updI L0 x t))).1 64 = rg 8 R0' := by rw [upR_ne _ _ (by decide), h64']
      have e62 : (upR S2 62 (rg 8 (updI L0 x t))).1 62 = rg 8 (updI L0 x t) := upR_at _ _ _
      have ef : Fr [62, 64, 70] [(59, 5)] S (upR S2 62 (rg 8 (updI L0 x t))) := Fr_upR hfr' (by simp)
      generalize upR S2 62 (rg 8 (updI L0 x t)) = S3 at *
      have k1 : ∃ S4, f_X6_put 64 (f_X6_last 70 S3) (x : Int) S3 = S4 ∧ S4.1 62 = rg 8 (updI L0 x t) ∧ S4.1 64 = rg 8 (hangR R0' stk x) ∧ S4.1 70 = stR stk ∧ Fr [62, 64, 70] [(59, 5)] S S4 := by
        cases stk with
        | nil =>
          rw [last_nil e70, put_neg (by decide)]
          exact ⟨S3, rfl, e62, e64, e70, ef⟩
        | cons s stk =>
          rw [last_st e70, put_rg e64]
          exact ⟨_, rfl, by rw [upR_ne _ _ (by decide), e62], upR_at _ _ _, by rw [upR_ne _ _ (by decide), e70], Fr_upR ef (by simp)⟩
      obtain ⟨S4, k2, k3, k4, k5, k6⟩ := k1
      rw [k2, add_st k5 (by rw [Ln71]; omega)]
      exact Ret_some ⟨_, rfl, by simp, Fr_upR k6 (by simp), by rw [upR_ne _ _ (by decide), k3], by rw [upR_ne _ _ (by decide), k4], upR_at _ _ _⟩
  · obtain ⟨z, S1⟩ := st
    obtain ⟨rfl, hfr, h62, h64, h70⟩ := hI
    dsimp only at *
    have h60' : S1.1 60 = natL r := by rw [hfr.1 60 (by simp), h60]
    have hsz : f_X6_size 60 S1 = r.length := by
      unfold f_X6_size
      rw [h60', natL_len]
    rw [hsz, if_neg (by omega)]
    rw [List.take_length] at h62 h64 h70
    exact Ret_some ⟨_, rfl, hfr, h62, h64, h70⟩
  · obtain ⟨hfr, h62, h64, h70⟩ := hS'
    refine Ret_some ⟨Fr_upS hfr (by simp), h62, h64, ?_⟩
    show up2 S'.2 59 5 _ 59 5 = _
    rw [up2_same]
    unfold f_X6_at
    rw [h70, lat_bot]
    rfl
