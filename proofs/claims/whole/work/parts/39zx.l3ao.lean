/-! LEVEL 3, ao: a formula, on both sides -/
theorem stl_45 : ∀ (st rs : List Nat), hr4 st = false → (∀ k ∈ st, k ∈ LK) → stl 4 st rs = stl 5 st rs
  | [], rs, _, _ => rfl
  | k :: st, rs, h, hK => by
    have hf := LK_f k (hK k List.mem_cons_self)
    unfold hr4 at h
    unfold stl
    by_cases e : k = 40
    · rw [if_pos (Or.inl (hf.2.2.2.2.1.mpr e)), if_pos (Or.inl (hf.2.2.2.2.1.mpr e))]
    · rw [if_neg e] at h
      by_cases q : 4 < rk k
      · rw [if_pos q] at h
        rw [if_neg (by omega), if_neg (by omega)]
        exact stl_45 st (k :: rs) h (fun x hx => hK x (List.mem_cons_of_mem _ hx))
      · rw [if_neg q] at h
        have : rk k ≠ 4 := by simpa using h
        by_cases z : rk k = 0
        · rw [if_pos (Or.inl z), if_pos (Or.inl z)]
        · rw [if_pos (by omega), if_pos (by omega)]
section FORM
variable {T : Nat → Int} {nt cn : Nat} {f : Nat → List Int}
/-- what the two have when the loop is over -/
def FO (T : Nat → Int) (nt cn : Nat) (f : Nat → List Int) (S' : Sst) (O' : Smo) : Prop :=
  FT S' O' ∨ (∃ (S1 : Sst) (p : Nat) (st rs : List Nat) (U : Nat), OKT T nt cn f S1 O' p ∧ RP O' st rs U ∧ PI U 1 st rs ∧ S' = f_X3_fail 2 S1 ∧ (¬ O' 262 6 = 59 ∨ 40 ∈ st)) ∨
  ∃ (p : Nat) (st rs rs' : List Nat) (U : Nat), OKT T nt cn f S' O' p ∧ O' 262 6 = 59 ∧ RP O' st rs U ∧ PI U 1 st rs ∧ 40 ∉ st ∧ stl 1 st rs = ([], rs') ∧ CP S' [] rs' U ∧ S'.2 53 9 = (p : Int) ∧ O' 262 4 = (p : Int)
theorem sign_v {v i : Nat} {S : Sst} {O : Smo} (hv : Vw v i cn f S O) : f_X12_sign O = (if v = 3 ∧ i = 7 then 38 else if v = 3 ∧ i = 6 then 124 else if v = 5 ∧ (i = 60 ∨ i = 62 ∨ i = 61 ∨ i = 43 ∨ i = 45 ∨ i = 42 ∨ i = 47 ∨ i = 37) then (i : Int) else 0) := by
  have hk := Vw_k hv
  have h7 := (Vw_own hv (j := 7) (by decide)).1
  have h6 := (Vw_own hv (j := 6) (by decide)).1
  unfold f_X12_sign
  rw [show (6385252 : Int) = W256 7 from rfl, show (28530 : Int) = W256 6 from rfl, h7, h6]
  by_cases a : v = 3 ∧ i = 7
  · rw [if_pos a, if_pos a, if_neg (show ¬ (1 : Int) = 0 by decide)]
  · rw [if_neg a, if_neg a, if_pos rfl]
    by_cases b : v = 3 ∧ i = 6
    · rw [if_pos b, if_pos b, if_neg (show ¬ (1 : Int) = 0 by decide)]
    · rw [if_neg b, if_neg b, if_pos rfl]
      have hh := fun (c : Nat) (a : 37 ≤ c) (b : c < 100) => (hk.2.2.2.2.2.2.1 c a b).1
      have e60 := hh 60 (by decide) (by decide)
      have e61 := hh 61 (by decide) (by decide)
      have e62 := hh 62 (by decide) (by decide)
      have e43 := hh 43 (by decide) (by decide)
      have e45 := hh 45 (by decide) (by decide)
      have e42 := hh 42 (by decide) (by decide)
      have e47 := hh 47 (by decide) (by decide)
      have e37 := hh 37 (by decide) (by decide)
      by_cases c : v = 5 ∧ (i = 60 ∨ i = 62 ∨ i = 61 ∨ i = 43 ∨ i = 45 ∨ i = 42 ∨ i = 47 ∨ i = 37)
      · obtain ⟨rfl, c2⟩ := c
        have hi : O 262 6 = (i : Int) := (hh i (by omega) (by omega)).mpr ⟨rfl, rfl⟩
        rw [hi, if_pos (by omega), if_pos ⟨rfl, c2⟩]
      · rw [if_neg (by omega), if_neg c]
theorem LK_op : ∀ k ∈ LK, k ≠ 40 → k ≠ 108 → (rk k = 4 ↔ k = 60 ∨ k = 61 ∨ k = 62) ∧ (rk k = 1 ∨ rk k = 2 ∨ 4 ≤ rk k) ∧ rk k ≤ 6 ∧ isB k = true ∧ ¬ rcS k = 0 := by decide +kernel
theorem sz57 {S : Sst} {st rs : List Nat} {U : Nat} (hC : CP S st rs U) : f_X6_size 57 S = (st.length : Int) := by
  unfold f_X6_size
  rw [hC.1, stR_len]
theorem cl_close59 {S : Sst} {st rs : List Nat} {U : Nat} (hP : PI U 1 st rs) (hC : CP S st rs U) (h : S.2 53 0 = 59) : ∃ S1, CP S1 (stl 1 st rs).1 (stl 1 st rs).2 U ∧ FrF S S1 ∧ ((stl 1 st rs).1 = [] → f_X2_readSign 24 S = some (3, S1)) ∧ (¬ (stl 1 st rs).1 = [] → f_X2_readSign 24 S = some (3, f_X3_fail 2 S1)) := by
  obtain ⟨S1, e1, c1, f1⟩ := cl_settle 1 hP hC
  have e1' : f_X2_settle 24 1 S = some S1 := e1
  have hsz := sz57 c1
  refine ⟨S1, c1, f1, fun e => ?_, fun e => ?_⟩
  · unfold f_X2_readSign f_X2_close
    dsimp only [jn]
    rw [h, if_pos (Or.inl rfl), e1']
    dsimp only [Option.bind_some]
    rw [hsz, e, if_neg (show ¬ (0 : Int) < (([] : List Nat).length : Int) by decide), if_neg (show ¬ (59 : Int) = 41 by decide), if_pos rfl, if_pos rfl]
    rfl
  · have hl : 0 < (stl 1 st rs).1.length := List.length_pos_iff.mpr e
    unfold f_X2_readSign f_X2_close
    dsimp only [jn]
    rw [h, if_pos (Or.inl rfl), e1']
    dsimp only [Option.bind_some]
    rw [hsz, if_pos (show (0 : Int) < ((stl 1 st rs).1.length : Int) by omega), if_neg (show ¬ (59 : Int) = 41 by decide), if_neg (show ¬ (1 : Int) = 0 by decide)]
    rfl
theorem cl_close41 {S : Sst} {st rs : List Nat} {U : Nat} (hP : PI U 1 st rs) (hC : CP S st rs U) (h : S.2 53 0 = 41) : ∃ S1, CP S1 (stl 1 st rs).1 (stl 1 st rs).2 U ∧ FrF S S1 ∧ ((stl 1 st rs).1 = [] → f_X2_readSign 24 S = some (3, f_X3_fail 2 S1)) ∧ (¬ (stl 1 st rs).1 = [] → f_X2_readSign 24 S = Option.bind (f_X3_step (upS (f_X6_takeLast 57 S1).2 56 2 (wr (((f_X6_takeLast 57 S1).2.2 56 2) - 1)))) (fun q => some (2, q))) := by
  obtain ⟨S1, e1, c1, f1⟩ := cl_settle 1 hP hC
  have e1' : f_X2_settle 24 1 S = some S1 := e1
  have hsz := sz57 c1
  have hbind : ∀ {α β γ : Type} (o : Option α) (F : α → Option β) (G : β → Option γ), Option.bind (Option.bind o F) G = Option.bind o (fun a => Option.bind (F a) G) := fun o F G => by cases o <;> rfl
  refine ⟨S1, c1, f1, fun e => ?_, fun e => ?_⟩
  · unfold f_X2_readSign f_X2_close
    dsimp only [jn]
    rw [h, if_pos (Or.inr rfl), e1']
    dsimp only [Option.bind_some]
    rw [hsz, e, if_neg (show ¬ (0 : Int) < (([] : List Nat).length : Int) by decide), if_pos (show (41 : Int) = 41 from rfl), if_neg (show ¬ (0 : Int) = 1 by decide)]
    rfl
  · have hl : 0 < (stl 1 st rs).1.length := List.length_pos_iff.mpr e
    unfold f_X2_readSign f_X2_close
    dsimp only [jn]
    rw [h, if_pos (Or.inr rfl), e1']
    dsimp only [Option.bind_some]
    rw [hsz, if_pos (show (0 : Int) < ((stl 1 st rs).1.length : Int) by omega), if_pos (show (41 : Int) = 41 from rfl), if_pos (show (1 : Int) = 1 from rfl), if_neg (show ¬ (41 : Int) = 59 by decide), hbind]
    rfl
theorem cl_signO {S : Sst} {st rs : List Nat} {U kk : Nat} (hP : PI U 1 st rs) (hC : CP S st rs U) (h : S.2 53 0 = (kk : Int)) (hL : kk ∈ LK) (h40 : kk ≠ 40) (h108 : kk ≠ 108) : ∃ S1, CP S1 (stl (if rk kk = 4 then 5 else rk kk) st rs).1 (stl (if rk kk = 4 then 5 else rk kk) st rs).2 U ∧ FrF S S1 ∧ ((rk kk = 4 ∧ hr4 st = true) → f_X2_readSign 24 S = some (3, f_X3_fail 2 S1)) ∧ (¬ (rk kk = 4 ∧ hr4 st = true) → f_X2_readSign 24 S = Option.bind (f_X3_step (f_X6_add 57 (kk : Int) S1)) (fun q => if 2 < rk kk then some (1, q) else some (0, q))) := by
  obtain ⟨o1, o2, o3, o4, o5⟩ := LK_op kk hL h40 h108
  obtain ⟨S1, e1, c1, f1⟩ := cl_settle (if rk kk = 4 then 5 else rk kk) hP hC
  have hne : ∀ k ∈ LK, k ≠ 59 ∧ k ≠ 41 := by decide
  obtain ⟨n1, n2⟩ := hne kk hL
  have hcast : (if (rk kk : Int) = 4 then (5 : Int) else (rk kk : Int)) = ((if rk kk = 4 then 5 else rk kk : Nat) : Int) := by
    by_cases z : rk kk = 4
    · rw [if_pos z, if_pos (by omega)]; rfl
    · rw [if_neg z, if_neg (by omega)]
  have q1 : ¬ ((kk : Int) = 59 ∨ (kk : Int) = 41) := by omega
  have q2 : ¬ (((rk kk : Int) = 0 ∨ (rk kk : Int) = 3) ∨ ¬ (0 : Int) = 0) := by omega
  have q3 : ∀ x : Prop, ((rk kk : Int) = 4 ∧ x) → rk kk = 4 := fun x w => by have := w.1; omega
  have q4 : rk kk = 4 → (rk kk : Int) = 4 := fun w => by omega
  have hl4 : f_X2_rankOf (f_X6_last 57 S1) = 4 ↔ ∃ k' st', (stl (if rk kk = 4 then 5 else rk kk) st rs).1 = k' :: st' ∧ rk k' = 4 := by
    cases hs : (stl (if rk kk = 4 then 5 else rk kk) st rs).1 with
    | nil =>
      rw [hs] at c1
      rw [last_nil c1.1]
      exact ⟨fun w => absurd w (by decide), fun ⟨k', st', e, _⟩ => by cases e⟩
    | cons k' st' =>
      rw [hs] at c1
      rw [last_st c1.1, rank_n]
      exact ⟨fun w => ⟨k', st', rfl, by omega⟩, fun ⟨k2, st2, e, w⟩ => by cases e; omega⟩
  have h5 := stl_5 st rs hP.1
  have hstart : f_X2_readSign 24 S = (if (((rk kk : Int) = 0 ∨ (rk kk : Int) = 3) ∨ ¬ (if ((rk kk : Int) = 4 ∧ f_X2_rankOf (f_X6_last 57 S1) = 4) then (1 : Int) else 0) = 0) then some (3, f_X3_fail 2 S1) else Option.bind (f_X3_step (f_X6_add 57 (kk : Int) S1)) (fun q => if 2 < (rk kk : Int) then some (1, q) else some (0, q))) := by
    unfold f_X2_readSign
    dsimp only [jn]
    rw [h, rank_n, if_neg q1, hcast, e1]
    rfl
  have hf : (fun q : Sst => if 2 < (rk kk : Int) then some ((1 : Int), q) else some (0, q)) = (fun q => if 2 < rk kk then some (1, q) else some (0, q)) := by
    funext q
    clear hl4
    by_cases y : 2 < rk kk
    · rw [if_pos y, if_pos (by omega)]
    · rw [if_neg y, if_neg (by omega)]
  refine ⟨S1, c1, f1, fun w => ?_, fun w => ?_⟩
  · rw [hstart]
    rw [if_pos w.1] at hl4
    rw [if_pos (c := (rk kk : Int) = 4 ∧ _) ⟨q4 w.1, hl4.mpr (h5.mp w.2)⟩, if_pos (Or.inr (by decide))]
  · have hno : ¬ ((rk kk : Int) = 4 ∧ f_X2_rankOf (f_X6_last 57 S1) = 4) := fun x => by
      have z : rk kk = 4 := q3 _ x
      rw [if_pos z] at hl4
      exact w ⟨z, h5.mpr (hl4.mp x.2)⟩
    rw [hstart, if_neg hno, if_neg q2, hf]
theorem rf_fO {O : Smo} {st rs : List Nat} {U kk : Nat} (hP : PI U 1 st rs) (hR : RP O st rs U) (h2 : O 262 2 = 0) (h41 : ¬ O 262 6 = 41) (hs : f_X12_sign O = rcS kk) (hL : kk ∈ LK) (h40 : kk ≠ 40) (h108 : kk ≠ 108) : ((rk kk = 4 ∧ hr4 st = true) → fM (1, O) = some (.inl (0, O))) ∧ (¬ (rk kk = 4 ∧ hr4 st = true) → fM (1, O) = Option.bind (f_X12_close (rk kk : Int) O) (fun (q5643 : Smo) =>
              Option.bind (asetO q5643 268 (Ln 268) (q5643 262 18) (rcS kk)) fun (O5646 : Smo) =>
              Option.bind (f_X12_token (up2 O5646 262 18 (wr ((O5646 262 18) + 1)))) fun (q5650 : Smo) =>
              Option.bind (f_X12_unit q5650) fun (q5653 : Smo) =>
              some (.inl ((1 : Int), q5653)))) := by
  have hl := PI_len hP
  obtain ⟨o1, o2, o3, o4, o5⟩ := LK_op kk hL h40 h108
  have htight : f_X12_tight (rcS kk) = (rk kk : Int) := ((LK_f kk hL).2.2.1 h40).1
  have hrel := rf_hasRel hP.1 (by omega) hR.1 hR.2.1
  have hbind : ∀ {α β γ : Type} (o : Option α) (F : α → Option β) (G : β → Option γ), Option.bind (Option.bind o F) G = Option.bind o (fun a => Option.bind (F a) G) := fun o F G => by cases o <;> rfl
  have hstart : ∀ X : Unit → Option (Int × Smo), (if f_X12_tight (rcS kk) = 4 then Option.bind (f_X12_hasRelation O) (fun q => if q = 0 then X () else some ((0 : Int), O)) else X ()) = if rk kk = 4 ∧ hr4 st = true then some ((0 : Int), O) else X () := fun X => by
    rw [htight]
    by_cases z : rk kk = 4
    · rw [if_pos (by omega), hrel]
      dsimp only [Option.bind_some]
      by_cases w : hr4 st = true
      · rw [if_pos w, if_neg (by decide), if_pos ⟨z, w⟩]
      · rw [if_neg w, if_pos rfl, if_neg (fun x => w x.2)]
    · rw [if_neg (by omega), if_neg (fun x => z x.1)]
  have hf : fM (1, O) = Option.bind (if rk kk = 4 ∧ hr4 st = true then some ((0 : Int), O) else Option.bind (f_X12_close (f_X12_tight (rcS kk)) O) (fun (q5643 : Smo) =>
              Option.bind (asetO q5643 268 (Ln 268) (q5643 262 18) (rcS kk)) fun (O5646 : Smo) =>
              Option.bind (f_X12_token (up2 O5646 262 18 (wr ((O5646 262 18) + 1)))) fun (q5650 : Smo) =>
              Option.bind (f_X12_unit q5650) fun (q5653 : Smo) =>
              some ((1 : Int), q5653))) (fun q => some (.inl (q.1, q.2))) := by
    rw [← hstart (fun _ => Option.bind (f_X12_close (f_X12_tight (rcS kk)) O) (fun (q5643 : Smo) =>
              Option.bind (asetO q5643 268 (Ln 268) (q5643 262 18) (rcS kk)) fun (O5646 : Smo) =>
              Option.bind (f_X12_token (up2 O5646 262 18 (wr ((O5646 262 18) + 1)))) fun (q5650 : Smo) =>
              Option.bind (f_X12_unit q5650) fun (q5653 : Smo) =>
              some ((1 : Int), q5653)))]
    unfold fM
    dsimp only [jn, jk]
    rw [if_neg (c := (1 : Int) = 0 ∨ ¬ O 262 2 = 0) (by omega), if_neg h41, hs, if_neg o5]
  constructor
  · intro w
    rw [hf, if_pos w]
    rfl
  · intro w
    rw [hf, if_neg w, htight, hbind]
    congr 1
    funext q
    rw [hbind]
    congr 1
    funext q
    rw [hbind]
    congr 1
    funext q
    rw [hbind]
    rfl
theorem cl_signE {S : Sst} {st rs : List Nat} {U a : Nat} (hP : PI U 1 st rs) (hC : CP S st rs U) (h59 : ¬ S.2 53 0 = 59) (h41 : ¬ S.2 53 0 = 41) (ha : f_X2_rankOf (S.2 53 0) = (a : Int)) (ha2 : a = 0 ∨ a = 3) : ∃ S1, FrF S S1 ∧ f_X2_readSign 24 S = some (3, f_X3_fail 2 S1) := by
  obtain ⟨S1, e1, c1, f1⟩ := cl_settle a hP hC
  refine ⟨S1, f1, ?_⟩
  unfold f_X2_readSign
  dsimp only [jn]
  rw [if_neg (c := S.2 53 0 = 59 ∨ S.2 53 0 = 41) (by omega), ha, if_neg (c := (a : Int) = 4) (by omega), e1]
  dsimp only [Option.bind_some]
  rw [if_pos (c := ((a : Int) = 0 ∨ (a : Int) = 3) ∨ _) (Or.inl (by omega))]
theorem rank_e {v i : Nat} {S : Sst} {O : Smo} (hv : Vw v i cn f S O) (c59 : ¬ (v = 5 ∧ i = 59)) (c41 : ¬ (v = 5 ∧ i = 41)) (cO : ¬ ((v = 3 ∧ (i = 6 ∨ i = 7)) ∨ (v = 5 ∧ (i = 60 ∨ i = 62 ∨ i = 61 ∨ i = 43 ∨ i = 45 ∨ i = 42 ∨ i = 47 ∨ i = 37)))) : ∃ a : Nat, f_X2_rankOf (S.2 53 0) = (a : Int) ∧ (a = 0 ∨ a = 3) := by
  have h2 : f_X2_rankOf (S.2 53 0) = 0 ∨ f_X2_rankOf (S.2 53 0) = 3 := by
    rcases hv with ⟨rfl, h1, h2⟩ | ⟨rfl, h1, h2⟩ | ⟨rfl, h1, h2, _⟩ | ⟨rfl, hi, h1, h2, h3⟩ | ⟨rfl, h1, h2, l, _, _, _, h4⟩ | ⟨rfl, hi, h1, h2⟩
    · rw [h2]; exact Or.inl (by decide)
    · rw [h2]; exact Or.inl (by decide)
    · rw [h2]; exact Or.inl (by decide)
    · have : ∀ i : Nat, i < 14 → i ≠ 6 → i ≠ 7 → f_X2_rankOf (100 + (i : Int)) = 0 ∨ f_X2_rankOf (100 + (i : Int)) = 3 := by decide
      rw [h3]
      exact this i hi (fun w => cO (Or.inl ⟨rfl, Or.inl w⟩)) (fun w => cO (Or.inl ⟨rfl, Or.inr w⟩))
    · rcases h4 with h4 | h4
      · rw [h4.1]; exact Or.inl (by decide)
      · rw [h4.1]; exact Or.inl (by decide)
    · have := SG_l hi
      have hi40 : i = 40 := by omega
      rw [h2, hi40]
      exact Or.inl (by decide)
  rcases h2 with e | e
  · exact ⟨0, e, Or.inl rfl⟩
  · exact ⟨3, e, Or.inr rfl⟩
/-- which sign stands between, for both -/
theorem op_v {v i : Nat} {S : Sst} {O : Smo} (hv : Vw v i cn f S O) (cO : (v = 3 ∧ (i = 6 ∨ i = 7)) ∨ (v = 5 ∧ (i = 60 ∨ i = 62 ∨ i = 61 ∨ i = 43 ∨ i = 45 ∨ i = 42 ∨ i = 47 ∨ i = 37))) : ∃ kk : Nat, S.2 53 0 = (kk : Int) ∧ kk ∈ LK ∧ kk ≠ 40 ∧ kk ≠ 108 ∧ f_X12_sign O = rcS kk := by
  have hk := Vw_k hv
  rw [sign_v hv]
  rcases cO with ⟨rfl, c⟩ | ⟨rfl, c⟩
  · have e := (Vw_own hv (j := i) (by omega)).2.mpr ⟨rfl, rfl⟩
    refine ⟨100 + i, by omega, ?_, by omega, by omega, ?_⟩
    · rcases c with rfl | rfl <;> decide
    · rcases c with rfl | rfl
      · rw [if_neg (by decide), if_pos ⟨rfl, rfl⟩]; rfl
      · rw [if_pos ⟨rfl, rfl⟩]; rfl
  · have e := (hk.2.2.2.2.2.2.1 i (by omega) (by omega)).2.mpr ⟨rfl, rfl⟩
    refine ⟨i, e, ?_, by omega, by omega, ?_⟩
    · rcases c with rfl | rfl | rfl | rfl | rfl | rfl | rfl | rfl <;> decide
    · rw [if_neg (by omega), if_neg (by omega), if_pos ⟨rfl, c⟩]
      unfold rcS
      rw [if_neg (by omega), if_neg (by omega), if_neg (by omega), if_neg (by omega)]
end FORM
