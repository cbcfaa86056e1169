/-! LEVEL 3, g: the class lists the tree; its heights -/
theorem upS_at (S : Sst) (k j : Nat) (v : Int) : (upS S k j v).2 k j = v := up2_same _ _ _ _
theorem upS_R (S : Sst) (k j : Nat) (v : Int) (q : Nat) : (upS S k j v).1 q = S.1 q := rfl
def pushS (t : Int) (st : List Nat) : List Nat := if t = -1 then st else t.toNat :: st
theorem TT_sub {L R : Nat → Int} : ∀ (n : Nat) (t : Int) (r : List Nat), r.length ≤ n → TT L R t r → ∀ y ∈ r, ∃ ry, TT L R (y : Int) ry ∧ ry.length ≤ r.length ∧ ∀ z ∈ ry, z ∈ r := by
  intro n
  induction n with
  | zero =>
    intro t r hn h y hy
    have hr : r = [] := List.eq_nil_of_length_eq_zero (by omega)
    subst hr
    cases hy
  | succ n ih =>
    intro t r hn h y hy
    rcases TT_inv h with ⟨rfl, rfl⟩ | ⟨s, a, b, rfl, rfl, e3, e4⟩
    · cases hy
    · have hl : (a ++ s :: b).length = a.length + b.length + 1 := by simp; omega
      rcases List.mem_append.mp hy with hy | hy
      · obtain ⟨ry, h1, h2, h3⟩ := ih _ a (by omega) e3 y hy
        exact ⟨ry, h1, by omega, fun z hz => by simp [h3 z hz]⟩
      · rcases List.mem_cons.mp hy with rfl | hy
        · exact ⟨_, h, Nat.le_refl _, fun z hz => hz⟩
        · obtain ⟨ry, h1, h2, h3⟩ := ih _ b (by omega) e4 y hy
          exact ⟨ry, h1, by omega, fun z hz => by simp [h3 z hz]⟩
theorem TT_t {L R : Nat → Int} {t : Int} {r : List Nat} (h : TT L R t r) : t = -1 ∨ ∃ s : Nat, t = (s : Int) ∧ s ∈ r := by
  rcases TT_inv h with ⟨rfl, rfl⟩ | ⟨s, a, b, rfl, rfl, e3, e4⟩
  · exact Or.inl rfl
  · exact Or.inr ⟨s, rfl, by simp⟩
/-- each of a stack is the top of a tree -/
def okS (L R : Nat → Int) (st : List Nat) : Prop := ∀ s ∈ st, s < 8 ∧ ∃ r, TT L R (s : Int) r ∧ r.length ≤ 8 ∧ ∀ y ∈ r, y < 8
def outS (L R : Nat → Int) (st : List Nat) : List Nat := st.flatMap (fun (s : Nat) => pre8 L R (s : Int))
theorem outS_len {L R : Nat → Int} : ∀ st : List Nat, okS L R st → st.length ≤ (outS L R st).length
  | [], _ => Nat.le_refl _
  | s :: st, h => by
    have ih := outS_len st (fun y hy => h y (by simp [hy]))
    obtain ⟨_, r, h1, h2, _⟩ := h s (by simp)
    obtain ⟨a, b, e, e3, e4⟩ := TT_inv_nat h1
    have hl : r.length = a.length + b.length + 1 := by rw [e]; simp; omega
    unfold outS at ih ⊢
    rw [List.flatMap_cons, (pre8_node e3 e4 (by omega)).1]
    simp only [List.length_cons, List.length_append]
    omega
theorem outS_push {L R : Nat → Int} {t : Int} {r : List Nat} (h : TT L R t r) (st : List Nat) : outS L R (pushS t st) = pre8 L R t ++ outS L R st := by
  unfold pushS outS
  rcases TT_t h with rfl | ⟨s, rfl, _⟩
  · rw [if_pos rfl, (pre8_nil L R).1]; rfl
  · rw [if_neg (by omega), List.flatMap_cons, Int.toNat_natCast]
theorem okS_push {L R : Nat → Int} {t : Int} {r : List Nat} (h : TT L R t r) (hl : r.length ≤ 8) (hr : ∀ y ∈ r, y < 8) {st : List Nat} (hs : okS L R st) : okS L R (pushS t st) := by
  unfold pushS
  rcases TT_t h with rfl | ⟨s, rfl, hm⟩
  · rw [if_pos rfl]; exact hs
  · rw [if_neg (by omega), Int.toNat_natCast]
    intro y hy
    rcases List.mem_cons.mp hy with rfl | hy
    · exact ⟨hr _ hm, r, h, hl, hr⟩
    · exact hs y hy
/-- one step of a way through a tree -/
theorem outS_step {L R : Nat → Int} {s : Nat} {st : List Nat} (h : okS L R (s :: st)) : outS L R (s :: st) = s :: outS L R (pushS (L s) (pushS (R s) st)) ∧ okS L R (pushS (R s) st) ∧ okS L R (pushS (L s) (pushS (R s) st)) := by
  obtain ⟨_, r, h1, h2, h3⟩ := h s (by simp)
  obtain ⟨a, b, e, e3, e4⟩ := TT_inv_nat h1
  have hl : r.length = a.length + b.length + 1 := by rw [e]; simp; omega
  have hst : okS L R st := fun y hy => h y (by simp [hy])
  have o1 := okS_push e4 (by omega) (fun y hy => h3 y (by rw [e]; simp [hy])) hst
  refine ⟨?_, o1, okS_push e3 (by omega) (fun y hy => h3 y (by rw [e]; simp [hy])) o1⟩
  rw [outS_push e3, outS_push e4]
  unfold outS
  rw [List.flatMap_cons, (pre8_node e3 e4 (by omega)).1]
  simp
theorem addU_st {S : Sst} {q : Nat} {t : Int} {st : List Nat} (h : S.1 q = stR st) (ht : t = -1 ∨ ∃ s : Nat, t = (s : Int)) (hl : (pushS t st).length ≤ Ln (q + 1)) : f_X6_addUnlessNone q t S = S ∧ S.1 q = stR (pushS t st) ∨ f_X6_addUnlessNone q t S = upR S q (stR (pushS t st)) := by
  unfold f_X6_addUnlessNone
  unfold pushS at *
  rcases ht with rfl | ⟨s, rfl⟩
  · rw [if_pos rfl, if_pos rfl]
    exact Or.inl ⟨rfl, h⟩
  · rw [if_neg (by omega)] at hl
    rw [if_neg (by omega), if_neg (by omega), Int.toNat_natCast]
    rw [Int.toNat_natCast, List.length_cons] at hl
    exact Or.inr (add_st h (by omega))
theorem addU_st' {S : Sst} {q : Nat} {t : Int} {st : List Nat} {ks : List Nat} {js : List (Nat × Nat)} {S0 : Sst} (h : S.1 q = stR st) (ht : t = -1 ∨ ∃ s : Nat, t = (s : Int)) (hl : (pushS t st).length ≤ Ln (q + 1)) (hq : q ∈ ks) (hf : Fr ks js S0 S) :
    ∃ S', f_X6_addUnlessNone q t S = S' ∧ S'.1 q = stR (pushS t st) ∧ Fr ks js S0 S' ∧ ∀ k, k ≠ q → S'.1 k = S.1 k := by
  rcases addU_st h ht hl with ⟨e, h2⟩ | e
  · exact ⟨S, e, h2, hf, fun _ _ => rfl⟩
  · exact ⟨_, e, upR_at _ _ _, Fr_upR hf hq, fun k hk => upR_ne _ _ hk⟩
theorem cl_list {S : Sst} {o1 o2 o3 : Nat} {X Y : Nat → Int} {t : Int} {r : List Nat} (h2 : S.1 o2 = rg 8 X) (h3 : S.1 o3 = rg 8 Y) (ht : S.2 59 5 = t) (hT : TT Y X t r) (hl : r.length ≤ 8) (hr : ∀ y ∈ r, y < 8)
    (n1 : Ln (o1 + 1) = 8) (n2 : o1 ≠ 70) (n3 : o2 ≠ o1) (n4 : o3 ≠ o1) (n5 : o2 ≠ 70) (n6 : o3 ≠ 70) :
    Ret (f_X10_list o1 o2 o3 S) (fun S' => Fr [o1, 70] [] S S' ∧ S'.1 o1 = natL (pre8 Y X t)) := by
  unfold f_X10_list f_X6_clear
  dsimp only [jn, jk]
  have hpl : (pre8 Y X t).length ≤ 8 := by rw [(pre8_perm _ _ _ (Nat.le_refl _) hl hT).length_eq]; exact hl
  have f0 : Fr [o1, 70] [] S (upR (upR S o1 []) 70 []) := Fr_upR (Fr_upR (Fr_refl _ _ _) (by simp)) (by simp)
  have g1 : (upR (upR S o1 []) 70 []).1 70 = stR [] := upR_at _ _ _
  have g2 : (upR (upR S o1 []) 70 []).1 o1 = [] := by rw [upR_ne _ _ n2, upR_at]
  have g3 : (upR (upR S o1 []) 70 []).2 59 5 = t := ht
  rw [g3]
  generalize upR (upR S o1 []) 70 [] = S1 at *
  have ht2 : t = -1 ∨ ∃ s : Nat, t = (s : Int) := by
    rcases TT_t hT with h | ⟨s, h, _⟩
    · exact Or.inl h
    · exact Or.inr ⟨s, h⟩
  have ok0 : okS Y X (pushS t []) := okS_push hT hl hr (fun y hy => by cases hy)
  have ou0 : outS Y X (pushS t []) = pre8 Y X t := by rw [outS_push hT]; simp [outS]
  obtain ⟨S2, e2, k1, k2, k3⟩ := addU_st' (S0 := S) (ks := [o1, 70]) (js := []) g1 ht2 (by rw [Ln71]; have := outS_len _ ok0; rw [ou0] at this; omega) (by simp) f0
  rw [e2]
  refine Ret_bind (Ret_lp (fun c q => q.1 = (c : Int) ∧ Fr [o1, 70] [] S q.2 ∧ ∃ don stk, don.length = c ∧ q.2.1 o1 = natL don ∧ q.2.1 70 = stR stk ∧ okS Y X stk ∧ don ++ outS Y X stk = pre8 Y X t) (pre8 Y X t).length (by omega) ⟨rfl, k2, [], pushS t [], rfl, by dsimp only; rw [k3 o1 n2, g2]; rfl, k1, ok0, by rw [ou0]; rfl⟩ (fun c q hc hI => ?_) (fun q hI => ?_) (Q := fun S' => Fr [o1, 70] [] S S' ∧ S'.1 o1 = natL (pre8 Y X t))) (fun S' h => Ret_some h)
  · obtain ⟨z, S3⟩ := q
    obtain ⟨rfl, hfr, don, stk, hdl, ho1, h70, hok, hout⟩ := hI
    dsimp only at *
    have hlen := congrArg List.length hout
    rw [List.length_append] at hlen
    cases stk with
    | nil =>
      have : (outS Y X ([] : List Nat)).length = 0 := rfl
      omega
    | cons s stk =>
      have hsz : f_X6_size 70 S3 = ((stk.length + 1 : Nat) : Int) := by
        unfold f_X6_size
        rw [h70, stR_len]
        rfl
      obtain ⟨q1, q2, q3⟩ := outS_step hok
      have hol := outS_len _ q3
      have hol2 := outS_len _ q2
      rw [q1, List.length_cons] at hlen
      have hs8 := (hok s (by simp)).1
      obtain ⟨_, rs, t1, t2, t3⟩ := hok s (by simp)
      obtain ⟨a, b, te, t4, t5⟩ := TT_inv_nat t1
      have htL : Y s = -1 ∨ ∃ s' : Nat, Y s = (s' : Int) := by
        rcases TT_t t4 with h | ⟨s', h, _⟩
        · exact Or.inl h
        · exact Or.inr ⟨s', h⟩
      have htR : X s = -1 ∨ ∃ s' : Nat, X s = (s' : Int) := by
        rcases TT_t t5 with h | ⟨s', h, _⟩
        · exact Or.inl h
        · exact Or.inr ⟨s', h⟩
      rw [hsz, if_pos (by omega), take_st h70]
      dsimp only
      have a1 : (upR S3 70 (stR stk)).1 70 = stR stk := upR_at _ _ _
      have a2 : (upR S3 70 (stR stk)).1 o1 = natL don := by rw [upR_ne _ _ n2, ho1]
      have a3 : Fr [o1, 70] [] S (upR S3 70 (stR stk)) := Fr_upR hfr (by simp)
      generalize upR S3 70 (stR stk) = S4 at *
      have b0 : f_X6_add o1 (s : Int) S4 = upR S4 o1 (natL (don ++ [s])) := by
        unfold f_X6_add
        rw [a2, natL_len, n1, if_pos (by omega)]
        simp [natL]
      rw [b0]
      have b1 : (upR S4 o1 (natL (don ++ [s]))).1 70 = stR stk := by rw [upR_ne _ _ (fun e => n2 e.symm), a1]
      have b2 : (upR S4 o1 (natL (don ++ [s]))).1 o1 = natL (don ++ [s]) := upR_at _ _ _
      have b3 : Fr [o1, 70] [] S (upR S4 o1 (natL (don ++ [s]))) := Fr_upR a3 (by simp)
      generalize upR S4 o1 (natL (don ++ [s])) = S5 at *
      have c2 : S5.1 o2 = rg 8 X := by rw [b3.1 o2 (by simp [n3, n5]), h2]
      rw [at_nat c2 hs8]
      have hpR : (pushS (X s) stk).length ≤ 8 := by
        have : (pushS (X s) stk).length ≤ (pushS (Y s) (pushS (X s) stk)).length := by
          generalize pushS (X s) stk = st1
          unfold pushS
          split <;> simp
        omega
      obtain ⟨S6, d1, d2, d3, d4⟩ := addU_st' (S0 := S) (ks := [o1, 70]) (js := []) b1 htR (by rw [Ln71]; exact hpR) (by simp) b3
      rw [d1]
      have c3 : S6.1 o3 = rg 8 Y := by rw [d4 o3 n6, b3.1 o3 (by simp [n4, n6]), h3]
      rw [at_nat c3 hs8]
      obtain ⟨S7, f1, f2, f3, f4⟩ := addU_st' (S0 := S) (ks := [o1, 70]) (js := []) d2 htL (by rw [Ln71]; omega) (by simp) d3
      rw [f1, wr_id (by omega) (by omega)]
      refine Ret_some ⟨_, rfl, by simp, f3, don ++ [s], pushS (Y s) (pushS (X s) stk), by simp [hdl], ?_, f2, q3, ?_⟩
      · dsimp only
        rw [f4 o1 n2, d4 o1 n2, b2]
      · rw [← hout, q1]; simp
  · obtain ⟨z, S3⟩ := q
    obtain ⟨rfl, hfr, don, stk, hdl, ho1, h70, hok, hout⟩ := hI
    dsimp only at *
    have hlen := congrArg List.length hout
    rw [List.length_append] at hlen
    have hol := outS_len _ hok
    have hs0 : stk = [] := List.eq_nil_of_length_eq_zero (by omega)
    subst hs0
    have hsz : f_X6_size 70 S3 = 0 := by
      unfold f_X6_size
      rw [h70, stR_len]
      rfl
    rw [hsz, if_neg (by omega)]
    refine Ret_some ⟨_, rfl, hfr, ?_⟩
    rw [ho1, ← hout]
    simp [outS]
theorem nodup_at {l : List Nat} (h : l.Nodup) {i j s : Nat} (hi : l[i]? = some s) (hj : l[j]? = some s) : i = j := by
  obtain ⟨h1, e1⟩ := List.getElem?_eq_some_iff.mp hi
  obtain ⟨h2, e2⟩ := List.getElem?_eq_some_iff.mp hj
  rcases Nat.lt_trichotomy i j with c | c | c
  · have := List.pairwise_iff_getElem.mp h i j h1 h2 c
    exact absurd (e1.trans e2.symm) this
  · exact c
  · have := List.pairwise_iff_getElem.mp h j i h2 h1 c
    exact absurd (e2.trans e1.symm) this
theorem take_mem {l : List Nat} {i : Nat} {y : Nat} (h : y ∈ l.take i) : ∃ j, j < i ∧ l[j]? = some y := by
  obtain ⟨j, hj⟩ := List.mem_iff_getElem?.mp h
  obtain ⟨h1, _⟩ := List.getElem?_eq_some_iff.mp hj
  rw [List.length_take] at h1
  refine ⟨j, by omega, ?_⟩
  rw [List.getElem?_take_of_lt (by omega)] at hj
  exact hj
theorem post8_last {L R : Nat → Int} {t : Int} {r : List Nat} (hl : r.length ≤ 8) (h : TT L R t r) : (t = -1 ∧ r = []) ∨ ∃ s : Nat, t = (s : Int) ∧ 0 < r.length ∧ (post8 L R t)[r.length - 1]? = some s := by
  rcases TT_inv h with ⟨rfl, rfl⟩ | ⟨s, a, b, rfl, rfl, e3, e4⟩
  · exact Or.inl ⟨rfl, rfl⟩
  · refine Or.inr ⟨s, rfl, by simp; omega, ?_⟩
    have hl' : (a ++ s :: b).length = a.length + b.length + 1 := by simp; omega
    have hp := (post8_perm hl h).length_eq
    rw [post8_node e3 e4 (by omega), ← List.append_assoc] at hp ⊢
    rw [← hp, List.length_append]
    simp
theorem hgt8_node {L R : Nat → Int} {s : Nat} {r : List Nat} (h : TT L R s r) (hl : r.length ≤ 8) : hgt8 L R s = 1 + max (hgt8 L R (L s)) (hgt8 L R (R s)) := by
  obtain ⟨a, b, e, e3, e4⟩ := TT_inv_nat h
  have hl' : r.length = a.length + b.length + 1 := by rw [e]; simp; omega
  exact (pre8_node e3 e4 (by omega)).2
theorem hgtT_le {L R : Nat → Int} : ∀ (f : Nat) (t : Int), hgtT L R f t ≤ f
  | 0, _ => Nat.le_refl _
  | f + 1, t => by
    unfold hgtT
    have h1 := hgtT_le (L := L) (R := R) f (L t.toNat)
    have h2 := hgtT_le (L := L) (R := R) f (R t.toNat)
    split <;> omega
theorem hgt8_le (L R : Nat → Int) (t : Int) : hgt8 L R t ≤ 8 := hgtT_le 8 t
theorem max_num {a b : Nat} {vl vr : Int} (h1 : (vl = -1 ∧ a = 0) ∨ vl = (a : Int)) (h2 : (vr = -1 ∧ b = 0) ∨ vr = (b : Int)) (ha : a ≤ 8) (hb : b ≤ 8) : wr (f_J9_max_7cf53 (f_J9_max_7cf53 vl vr) 0 + 1) = ((1 + max a b : Nat) : Int) := by
  unfold f_J9_max_7cf53
  have : (if (if vl < vr then vr else vl) < 0 then 0 else (if vl < vr then vr else vl)) + 1 = ((1 + max a b : Nat) : Int) := by
    split <;> split <;> omega
  rw [this, wr_id (by omega) (by omega)]
theorem cl_heights {S : Sst} {L R : Nat → Int} {t : Int} {r : List Nat} (h62 : S.1 62 = rg 8 L) (h64 : S.1 64 = rg 8 R) (h68 : S.1 68 = natL (pre8 R L t)) (hT : TT L R t r) (hl : r.length ≤ 8) (hr : ∀ y ∈ r, y < 8) (hnd : r.Nodup) :
    Ret (f_X10_measureHeights S) (fun S' => Fr [72] [(59, 6)] S S' ∧ S'.2 59 6 = (hgt8 L R t : Int)) := by
  have hpp := post8_perm hl hT
  have hpn : (post8 L R t).Nodup := hpp.nodup_iff.mpr hnd
  have hplen : (post8 L R t).length = r.length := hpp.length_eq
  have hprl : (pre8 R L t).length = r.length := by
    have : (post8 L R t).length = (pre8 R L t).length := by simp [post8]
    omega
  unfold f_X10_measureHeights
  dsimp only [jn, jk]
  have hf : f_X6_fill 72 8 0 S = upR S 72 (rg 8 (fun _ => 0)) := by
    unfold f_X6_fill
    rw [Ln73, show min (8 : Int).toNat 8 = 8 from rfl, rg_rep]
  rw [hf]
  have hsz : f_X6_size 68 (upS (upR S 72 (rg 8 (fun _ => 0))) 59 6 0) = r.length := by
    unfold f_X6_size
    show (((upR S 72 (rg 8 (fun _ => 0))).1 68).length : Int) = _
    rw [upR_ne _ _ (by decide), h68, natL_len, hprl]
  rw [hsz, wr_id (by omega) (by omega)]
  refine Ret_bind (Ret_lp (fun c q => q.1 = (r.length : Int) - 1 - c ∧ Fr [72] [(59, 6)] S q.2 ∧ ∃ h, q.2.1 72 = rg 8 h ∧ (∀ j s, j < c → (post8 L R t)[j]? = some s → h s = (hgt8 L R s : Int)) ∧ (c = 0 → q.2.2 59 6 = 0) ∧ (∀ s, 0 < c → (post8 L R t)[c - 1]? = some s → q.2.2 59 6 = (hgt8 L R s : Int))) r.length (by omega) ⟨by dsimp only; omega, Fr_upS (Fr_upR (Fr_refl _ _ _) (by simp)) (by simp), _, (upS_R _ _ _ _ _).trans (upR_at _ _ _), fun j s hj => by omega, fun _ => upS_at _ _ _ _, fun s hs => by omega⟩ (fun c q hc hI => ?_) (fun q hI => ?_) (Q := fun S' => Fr [72] [(59, 6)] S S' ∧ S'.2 59 6 = (hgt8 L R t : Int))) (fun S' h => Ret_some h)
  · obtain ⟨z, S1⟩ := q
    obtain ⟨rfl, hfr, h, h72, hh, _, _⟩ := hI
    dsimp only at *
    rw [if_neg (by omega)]
    obtain ⟨s, hs⟩ : ∃ s, (post8 L R t)[c]? = some s := ⟨(post8 L R t)[c]'(by omega), by simp [show c < (post8 L R t).length by omega]⟩
    have hsr : s ∈ r := hpp.mem_iff.mp (List.mem_of_getElem? hs)
    have hs8 := hr s hsr
    have hat : f_X6_at 68 ((r.length : Int) - 1 - c) S1 = (s : Int) := by
      unfold f_X6_at
      rw [hfr.1 68 (by simp), h68]
      have hi : (pre8 R L t)[r.length - 1 - c]? = some s := by
        unfold post8 at hs
        rw [List.getElem?_reverse (by omega)] at hs
        rw [← hs]
        congr 1
        omega
      have := lat_natL hi
      rw [show (((r.length - 1 - c : Nat)) : Int) = (r.length : Int) - 1 - c by omega] at this
      exact this
    rw [hat, at_nat (by rw [hfr.1 62 (by simp), h62]) hs8, at_nat (by rw [hfr.1 64 (by simp), h64]) hs8]
    obtain ⟨ry, ty, tl, _⟩ := TT_sub _ _ _ (Nat.le_refl _) hT s hsr
    have hnode := hgt8_node ty (by omega)
    obtain ⟨pL, pR⟩ := postC_at _ [] c s (post8_C _ _ _ [] (Nat.le_refl _) hl hT) hs
    have hval : ∀ u : Int, (u = -1 ∨ ∃ y : Nat, u = (y : Int) ∧ y ∈ [] ++ (post8 L R t).take c) → ∃ v, f_X6_at 72 u S1 = v ∧ ((v = -1 ∧ hgt8 L R u = 0) ∨ v = (hgt8 L R u : Int)) := fun u hu => by
      rcases hu with rfl | ⟨y, rfl, hy⟩
      · exact ⟨-1, at_out h72 (by omega), Or.inl ⟨rfl, (pre8_nil L R).2⟩⟩
      · rw [List.nil_append] at hy
        obtain ⟨j, hj, hjy⟩ := take_mem hy
        have hy8 := hr y (hpp.mem_iff.mp (List.mem_of_getElem? hjy))
        exact ⟨_, at_nat h72 hy8, Or.inr (hh j y hj hjy)⟩
    obtain ⟨vl, el, hvl⟩ := hval _ pL
    obtain ⟨vr, er, hvr⟩ := hval _ pR
    rw [el, er]
    have hb1 := hgt8_le L R (L s)
    have hb2 := hgt8_le L R (R s)
    have hm : wr (f_J9_max_7cf53 (f_J9_max_7cf53 vl vr) 0 + 1) = (hgt8 L R s : Int) := by
      rw [hnode]
      exact max_num hvl hvr hb1 hb2
    rw [hm, put_rg h72, wr_id (by omega) (by omega)]
    refine Ret_some ⟨_, rfl, by dsimp only; omega, Fr_upS (Fr_upR hfr (by simp)) (by simp), _, (upS_R _ _ _ _ _).trans (upR_at _ _ _), fun j s' hj hs' => ?_, fun q => by omega, fun s' _ hs' => ?_⟩
    · by_cases e : s' = s
      · subst e; rw [upd_same]
      · rw [upd_ne e]
        have : j ≠ c := fun q => by
          subst q
          rw [hs] at hs'
          exact e (Option.some.inj hs').symm
        exact hh j s' (by omega) hs'
    · have : s' = s := by
        rw [show c + 1 - 1 = c from rfl, hs] at hs'
        exact (Option.some.inj hs').symm
      subst this
      exact upS_at _ _ _ _
  · obtain ⟨z, S1⟩ := q
    obtain ⟨rfl, hfr, h, h72, hh, h0, h1⟩ := hI
    dsimp only at *
    rw [if_pos (by omega)]
    refine Ret_some ⟨_, rfl, hfr, ?_⟩
    rcases post8_last hl hT with ⟨rfl, rfl⟩ | ⟨s, rfl, q1, q2⟩
    · rw [h0 rfl, (pre8_nil L R).2]; rfl
    · exact h1 s q1 q2
def kTree : List Nat := [60, 62, 64, 66, 68, 70, 72]
def jTree : List (Nat × Nat) := [(59, 5), (59, 6)]
/-- what the class's tree holds of a row -/
def clTree (S : Sst) (w : Nat → Int) (r : List Nat) : Prop := S.1 60 = natL r ∧ S.1 62 = rg 8 (tL w r) ∧ S.1 64 = rg 8 (tR w r) ∧ S.1 66 = natL (pre8 (tL w r) (tR w r) (tRoot w r)) ∧ S.1 68 = natL (pre8 (tR w r) (tL w r) (tRoot w r)) ∧
  S.2 59 5 = tRoot w r ∧ S.2 59 6 = (hgt8 (tL w r) (tR w r) (tRoot w r) : Int)
theorem cl_build {S : Sst} {g : Sg} {n m : Nat} {x : Int} {lo : Nat → Nat} {w : Nat → Int} (h42 : S.1 42 = rg n (fun k => (lo k : Int))) (h44 : S.1 44 = rg n w) (hlo : ∀ k, k < n → lowB g n k (lo k)) (hg : OkSeg g n) (ho : Over g n m x) :
    Ret (f_X10_build m S) (fun S' => Fr kTree jTree S S' ∧ clTree S' w (rowF g m x)) := by
  have hn8 := hg.1
  have hrl : (rowF g m x).length ≤ 8 := by rw [rowF_len hg ho]; exact pc_le m
  have hrn : ∀ y ∈ rowF g m x, y < n := fun y hy => (ho.2 y ((rowF_mem hg ho).mp hy)).1
  have hr8 : ∀ y ∈ rowF g m x, y < 8 := fun y hy => by have := hrn y hy; omega
  have hnd := rowF_nodup hg ho
  unfold f_X10_build
  refine Ret_bind (cl_order h42 hlo hg ho) (fun S1 hS1 => ?_)
  obtain ⟨f1, a1⟩ := hS1
  generalize rowF g m x = r at *
  refine Ret_bind (cl_join a1 (by rw [f1.1 44 (by simp), h44]) hn8 hrn hrl) (fun S2 hS2 => ?_)
  obtain ⟨f2, b1, b2, b3⟩ := hS2
  have hT := joinJ_TT w r hnd
  refine Ret_bind (cl_list (o1 := 66) (o2 := 64) (o3 := 62) b2 b1 b3 hT hrl hr8 Ln67 (by decide) (by decide) (by decide) (by decide) (by decide)) (fun S3 hS3 => ?_)
  obtain ⟨f3, c1⟩ := hS3
  have b1' : S3.1 62 = rg 8 (tL w r) := by rw [f3.1 62 (by simp), b1]
  have b2' : S3.1 64 = rg 8 (tR w r) := by rw [f3.1 64 (by simp), b2]
  have b3' : S3.2 59 5 = tRoot w r := by rw [f3.2 59 5 (by simp), b3]
  refine Ret_bind (cl_list (o1 := 68) (o2 := 62) (o3 := 64) b1' b2' b3' (TT_swap _ _ _ (Nat.le_refl _) hT) (by simpa using hrl) (fun y hy => hr8 y (by simpa using hy)) Ln69 (by decide) (by decide) (by decide) (by decide) (by decide)) (fun S4 hS4 => ?_)
  obtain ⟨f4, d1⟩ := hS4
  have b1'' : S4.1 62 = rg 8 (tL w r) := by rw [f4.1 62 (by simp), b1']
  have b2'' : S4.1 64 = rg 8 (tR w r) := by rw [f4.1 64 (by simp), b2']
  refine Ret_bind (cl_heights b1'' b2'' d1 hT hrl hr8 hnd) (fun S5 hS5 => ?_)
  obtain ⟨f5, e1⟩ := hS5
  refine Ret_some ⟨?_, ?_, ?_, ?_, ?_, ?_, ?_, e1⟩
  · exact Fr_trans (Fr_mono f1 (by simp [kTree]) (by simp)) (Fr_trans (Fr_mono f2 (by simp [kTree]) (by simp [jTree])) (Fr_trans (Fr_mono f3 (by simp [kTree]) (by simp)) (Fr_trans (Fr_mono f4 (by simp [kTree]) (by simp)) (Fr_mono f5 (by simp [kTree]) (by simp [jTree])))))
  · rw [f5.1 60 (by simp), f4.1 60 (by simp), f3.1 60 (by simp), f2.1 60 (by simp), a1]
  · rw [f5.1 62 (by simp), b1'']
  · rw [f5.1 64 (by simp), b2'']
  · rw [f5.1 66 (by simp), f4.1 66 (by simp), c1]
  · rw [f5.1 68 (by simp), d1]
  · rw [f5.2 59 5 (by simp), f4.2 59 5 (by simp), b3']
