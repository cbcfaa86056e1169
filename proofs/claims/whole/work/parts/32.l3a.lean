/-! LEVEL 3, a: loops, rows as ranges, bits (pure) -/
theorem lp_m {σ ρ : Type} {step : σ → Option (σ ⊕ ρ)} (I : σ → Prop) (m : σ → Nat) (Q : ρ → Prop)
    (h : ∀ s, I s → (∃ s', step s = some (.inl s') ∧ I s' ∧ m s' < m s) ∨ (∃ r, step s = some (.inr r) ∧ Q r)) :
    ∀ (n : Nat) (s : σ), I s → m s < n → ∃ r, lp step n s = some r ∧ Q r
  | 0, s, _, hm => by omega
  | n + 1, s, hI, hm => by
    rcases h s hI with ⟨s', e, hI', hm'⟩ | ⟨r, e, hQ⟩
    · obtain ⟨r, e2, hQ⟩ := lp_m I m Q h n s' hI' (by omega)
      exact ⟨r, by rw [lp, e]; exact e2, hQ⟩
    · exact ⟨r, by rw [lp, e]; rfl, hQ⟩
theorem lp_2 {σ₁ σ₂ ρ₁ ρ₂ : Type} {f : σ₁ → Option (σ₁ ⊕ ρ₁)} {g : σ₂ → Option (σ₂ ⊕ ρ₂)} (I : σ₁ → σ₂ → Prop) (m : σ₁ → Nat) (Q : ρ₁ → ρ₂ → Prop)
    (h : ∀ s t, I s t → (∃ s' t', f s = some (.inl s') ∧ g t = some (.inl t') ∧ I s' t' ∧ m s' < m s) ∨ (∃ r q, f s = some (.inr r) ∧ g t = some (.inr q) ∧ Q r q)) :
    ∀ (n : Nat) (s : σ₁) (t : σ₂), I s t → m s < n → ∃ r q, lp f n s = some r ∧ lp g n t = some q ∧ Q r q
  | 0, s, t, _, hm => by omega
  | n + 1, s, t, hI, hm => by
    rcases h s t hI with ⟨s', t', e, e', hI', hm'⟩ | ⟨r, q, e, e', hQ⟩
    · obtain ⟨r, q, e2, e3, hQ⟩ := lp_2 I m Q h n s' t' hI' (by omega)
      exact ⟨r, q, by rw [lp, e]; exact e2, by rw [lp, e']; exact e3, hQ⟩
    · exact ⟨r, q, by rw [lp, e]; rfl, by rw [lp, e']; rfl, hQ⟩
theorem lp_ck {σ ρ : Type} {step : σ → Option (σ ⊕ ρ)} (st : Nat → σ) (n : Nat) {r : ρ}
    (h : ∀ c, c < n → step (st c) = some (.inl (st (c + 1)))) (he : step (st n) = some (.inr r)) :
    ∀ (f k : Nat), k ≤ n → n - k < f → lp step f (st k) = some r
  | 0, k, _, hf => by omega
  | f + 1, k, hk, hf => by
    by_cases e : k = n
    · subst e
      rw [lp, he]; rfl
    · have := lp_ck st n h he f (k + 1) (by omega) (by omega)
      rw [lp, h k (by omega)]; exact this
theorem lp_c {σ ρ : Type} {step : σ → Option (σ ⊕ ρ)} (st : Nat → σ) (n : Nat) (hn : n < 4294967296) {r : ρ}
    (h : ∀ c, c < n → step (st c) = some (.inl (st (c + 1)))) (he : step (st n) = some (.inr r)) : lp step FU (st 0) = some r :=
  lp_ck st n h he FU 0 (Nat.zero_le _) (by unfold FU; omega)
/-- a loop that counts: at count c it stands at a state with I c -/
theorem lp_i {σ ρ : Type} {step : σ → Option (σ ⊕ ρ)} (I : Nat → σ → Prop) (Q : ρ → Prop) (n : Nat) (hn : n < 4294967296)
    (h : ∀ c s, c < n → I c s → ∃ s', step s = some (.inl s') ∧ I (c + 1) s') (he : ∀ s, I n s → ∃ r, step s = some (.inr r) ∧ Q r) {s : σ} (h0 : I 0 s) : ∃ r, lp step FU s = some r ∧ Q r := by
  have key : ∀ (f k : Nat) (s : σ), k ≤ n → n - k < f → I k s → ∃ r, lp step f s = some r ∧ Q r := by
    intro f
    induction f with
    | zero => intro k s _ h1; omega
    | succ f ih =>
      intro k s hk hf hI
      by_cases e : k = n
      · subst e
        obtain ⟨r, e1, e2⟩ := he s hI
        exact ⟨r, by rw [lp, e1]; rfl, e2⟩
      · obtain ⟨s', e1, e2⟩ := h k s (by omega) hI
        obtain ⟨r, e3, e4⟩ := ih (k + 1) s' (by omega) (by omega) e2
        exact ⟨r, by rw [lp, e1]; exact e3, e4⟩
  exact key FU 0 s (Nat.zero_le _) (by unfold FU; omega) h0
/-- two loops that count in step -/
theorem lp_i2 {σ₁ σ₂ ρ₁ ρ₂ : Type} {f : σ₁ → Option (σ₁ ⊕ ρ₁)} {g : σ₂ → Option (σ₂ ⊕ ρ₂)} (I : Nat → σ₁ → σ₂ → Prop) (Q : ρ₁ → ρ₂ → Prop) (n : Nat) (hn : n < 4294967296)
    (h : ∀ c s t, c < n → I c s t → ∃ s' t', f s = some (.inl s') ∧ g t = some (.inl t') ∧ I (c + 1) s' t')
    (he : ∀ s t, I n s t → ∃ r q, f s = some (.inr r) ∧ g t = some (.inr q) ∧ Q r q) {s : σ₁} {t : σ₂} (h0 : I 0 s t) : ∃ r q, lp f FU s = some r ∧ lp g FU t = some q ∧ Q r q := by
  have key : ∀ (u k : Nat) (s : σ₁) (t : σ₂), k ≤ n → n - k < u → I k s t → ∃ r q, lp f u s = some r ∧ lp g u t = some q ∧ Q r q := by
    intro u
    induction u with
    | zero => intro k s t _ h1; omega
    | succ u ih =>
      intro k s t hk hf hI
      by_cases e : k = n
      · subst e
        obtain ⟨r, q, e1, e2, e3⟩ := he s t hI
        exact ⟨r, q, by rw [lp, e1]; rfl, by rw [lp, e2]; rfl, e3⟩
      · obtain ⟨s', t', e1, e2, e3⟩ := h k s t (by omega) hI
        obtain ⟨r, q, e4, e5, e6⟩ := ih (k + 1) s' t' (by omega) (by omega) e3
        exact ⟨r, q, by rw [lp, e1]; exact e4, by rw [lp, e2]; exact e5, e6⟩
  exact key FU 0 s t (Nat.zero_le _) (by unfold FU; omega) h0
def Ret {α : Type} (o : Option α) (Q : α → Prop) : Prop := ∃ a, o = some a ∧ Q a
theorem Ret_some {α : Type} {a : α} {Q : α → Prop} (h : Q a) : Ret (some a) Q := ⟨a, rfl, h⟩
theorem Ret_bind {α β : Type} {o : Option α} {F : α → Option β} {P : α → Prop} {Q : β → Prop} (h : Ret o P) (k : ∀ a, P a → Ret (F a) Q) : Ret (Option.bind o F) Q := by
  obtain ⟨a, rfl, ha⟩ := h
  exact k a ha
theorem Ret_mono {α : Type} {o : Option α} {P Q : α → Prop} (h : Ret o P) (k : ∀ a, P a → Q a) : Ret o Q := by
  obtain ⟨a, rfl, ha⟩ := h
  exact ⟨a, rfl, k a ha⟩
theorem Ret_eq {α : Type} {o : Option α} {a : α} (h : Ret o (fun b => b = a)) : o = some a := by
  obtain ⟨b, rfl, rfl⟩ := h
  rfl
theorem Ret_of {α : Type} {o : Option α} {a : α} {Q : α → Prop} (h : o = some a) (q : Q a) : Ret o Q := ⟨a, h, q⟩
theorem Ret_lp {σ ρ : Type} {step : σ → Option (σ ⊕ ρ)} (I : Nat → σ → Prop) {Q : ρ → Prop} (n : Nat) (hn : n < 4294967296) {s : σ} (h0 : I 0 s)
    (h : ∀ c s, c < n → I c s → Ret (step s) (fun q => ∃ s', q = .inl s' ∧ I (c + 1) s')) (he : ∀ s, I n s → Ret (step s) (fun q => ∃ r, q = .inr r ∧ Q r)) : Ret (lp step FU s) Q := by
  refine lp_i I Q n hn (fun c s hc hs => ?_) (fun s hs => ?_) h0
  · obtain ⟨q, e, s', rfl, h2⟩ := h c s hc hs
    exact ⟨s', e, h2⟩
  · obtain ⟨q, e, r, rfl, h2⟩ := he s hs
    exact ⟨r, e, h2⟩
theorem Ret_lpm {σ ρ : Type} {step : σ → Option (σ ⊕ ρ)} (I : σ → Prop) (m : σ → Nat) {Q : ρ → Prop} {s : σ} (h0 : I s) (hm : m s < 4294967296)
    (h : ∀ s, I s → Ret (step s) (fun q => (∃ s', q = .inl s' ∧ I s' ∧ m s' < m s) ∨ ∃ r, q = .inr r ∧ Q r)) : Ret (lp step FU s) Q := by
  refine lp_m I m Q (fun s hs => ?_) FU s h0 (by unfold FU; omega)
  obtain ⟨q, e, ⟨s', rfl, h2⟩ | ⟨r, rfl, h2⟩⟩ := h s hs
  · exact Or.inl ⟨s', e, h2⟩
  · exact Or.inr ⟨r, e, h2⟩
-- rows
def rg (n : Nat) (f : Nat → Int) : List Int := (List.range n).map f
theorem rg_len (n : Nat) (f : Nat → Int) : (rg n f).length = n := by simp [rg]
theorem rg_get {n k : Nat} {f : Nat → Int} (h : k < n) : (rg n f)[k]? = some (f k) := by simp [rg, h]
theorem rg_getD {n k : Nat} {f : Nat → Int} {d : Int} (h : k < n) : (rg n f).getD k d = f k := by simp [rg, h]
theorem lat_rg {n : Nat} {f : Nat → Int} {z : Int} (h0 : 0 ≤ z) (h1 : z < n) : lat (rg n f) z = f z.toNat := by
  unfold lat
  rw [if_pos h0, rg_getD (by omega)]
theorem lat_nat {n k : Nat} {f : Nat → Int} (h : k < n) : lat (rg n f) (k : Int) = f k := by
  rw [lat_rg (by omega) (by omega)]; simp
theorem lat_len {l : List Int} {z : Int} (h : z < 0 ∨ (l.length : Int) ≤ z) : lat l z = -1 := by
  unfold lat
  split
  · rw [List.getD_eq_getElem?_getD, List.getElem?_eq_none (by omega)]; rfl
  · rfl
theorem lat_out {n : Nat} {f : Nat → Int} {z : Int} (h : z < 0 ∨ (n : Int) ≤ z) : lat (rg n f) z = -1 := lat_len (by rw [rg_len]; exact h)
theorem rg_ext {n : Nat} {f g : Nat → Int} (h : ∀ k, k < n → f k = g k) : rg n f = rg n g := by
  unfold rg
  exact List.map_congr_left (fun k hk => h k (List.mem_range.mp hk))
theorem rg_inj {n : Nat} {f g : Nat → Int} (h : rg n f = rg n g) : ∀ k, k < n → f k = g k := fun k hk => by
  have h1 := rg_get (f := f) hk
  rw [h, rg_get hk] at h1
  exact (Option.some.inj h1).symm
theorem rg_of {l : List Int} {n : Nat} {f : Nat → Int} (h1 : l.length = n) (h2 : ∀ k, k < n → l.getD k (-1) = f k) : l = rg n f := by
  apply List.ext_getElem
  · rw [rg_len, h1]
  · intro k h3 h4
    have h5 := h2 k (by omega)
    have h6 : (rg n f)[k]? = some (f k) := rg_get (by omega)
    rw [List.getElem?_eq_getElem h4] at h6
    rw [Option.some.inj h6, ← h5]
    simp [h3]
theorem rg_app (n : Nat) (f : Nat → Int) (x : Int) : rg n f ++ [x] = rg (n + 1) (fun k => if k = n then x else f k) := by
  apply rg_of
  · simp [rg_len]
  · intro k hk
    by_cases e : k = n
    · subst e
      simp [rg]
    · rw [if_neg e]
      have h : k < n := by omega
      simp [List.getD_eq_getElem?_getD, rg, h, List.getElem?_append]
theorem rg_app' {n : Nat} {f : Nat → Int} {x : Int} (h : f n = x) : rg n f ++ [x] = rg (n + 1) f := by
  rw [rg_app]
  exact rg_ext (fun k hk => by
    by_cases e : k = n
    · rw [if_pos e, e, h]
    · rw [if_neg e])
theorem rg_set (n i : Nat) (f : Nat → Int) (x : Int) : (rg n f).set i x = rg n (fun k => if k = i then x else f k) := by
  apply rg_of
  · simp [rg_len]
  · intro k hk
    by_cases e : k = i
    · subst e
      simp [rg, hk]
    · rw [if_neg e]
      have e' : i ≠ k := fun q => e q.symm
      simp [List.getD_eq_getElem?_getD, rg, hk, List.getElem?_set, e']
theorem rg_take {n m : Nat} (f : Nat → Int) (h : m ≤ n) : (rg n f).take m = rg m f := by
  apply rg_of
  · simp [rg_len]; omega
  · intro k hk
    simp [List.getD_eq_getElem?_getD, rg, hk, show k < n by omega]
theorem rg_take_all {n m : Nat} (f : Nat → Int) (h : n ≤ m) : (rg n f).take m = rg n f := List.take_of_length_le (by rw [rg_len]; exact h)
theorem rg_rep (n : Nat) (x : Int) : List.replicate n x = rg n (fun _ => x) := by
  apply rg_of
  · simp
  · intro k hk
    simp [List.getD_eq_getElem?_getD, hk]
theorem rg_0 (f : Nat → Int) : rg 0 f = [] := rfl
theorem rg_drop (n : Nat) (f : Nat → Int) : (rg (n + 1) f).dropLast = rg n f := by
  rw [List.dropLast_eq_take, rg_len]
  exact rg_take f (by omega)
theorem rg_map {l : List Nat} : l.map (fun (k : Nat) => (k : Int)) = rg l.length (fun k => ((l.getD k 0 : Nat) : Int)) := by
  apply rg_of
  · simp
  · intro k hk
    simp [List.getD_eq_getElem?_getD, hk]
-- arrays
theorem aget_in {f : Nat → Int} {n : Nat} {z : Int} (h0 : 0 ≤ z) (h1 : z < n) : aget f n z = some (f z.toNat) := if_pos ⟨h0, h1⟩
theorem aget_nat {f : Nat → Int} {n k : Nat} (h : k < n) : aget f n (k : Int) = some (f k) := by
  rw [aget_in (by omega) (by omega)]; simp
theorem aset_in {O : Smo} {k n : Nat} {z v : Int} (h0 : 0 ≤ z) (h1 : z < n) : asetO O k n z v = some (up2 O k z.toNat v) := if_pos ⟨h0, h1⟩
theorem aset_nat {O : Smo} {k n i : Nat} {v : Int} (h : i < n) : asetO O k n (i : Int) v = some (up2 O k i v) := by
  rw [aset_in (by omega) (by omega)]; simp
theorem up2_same (M : Smo) (k j : Nat) (v : Int) : up2 M k j v k j = v := by simp [up2]
theorem up2_ne {M : Smo} {k j a b : Nat} {v : Int} (h : a ≠ k ∨ b ≠ j) : up2 M k j v a b = M a b := by
  unfold up2
  rw [if_neg]
  rintro ⟨rfl, rfl⟩
  rcases h with h | h <;> exact h rfl
theorem up2_row {M : Smo} {k j a : Nat} {v : Int} (h : a ≠ k) : up2 M k j v a = M a := by
  funext b
  exact up2_ne (Or.inl h)
theorem up2_self (M : Smo) (k j : Nat) (v : Int) : up2 M k j v k = fun b => if b = j then v else M k b := by
  funext b
  unfold up2
  by_cases h : b = j <;> simp [h]
-- bits of sets below 256
def bt (m k : Nat) : Int := if m.testBit k then 1 else 0
def clr (m k : Nat) : Nat := m &&& (255 - 2 ^ k)
def put1 (m k : Nat) : Nat := m ||| 2 ^ k
def mem8 (m : Nat) : List Nat := (List.range 8).filter (fun k => m.testBit k)
def pc (m : Nat) : Nat := (mem8 m).length
theorem bit_f : ∀ m : Fin 256, ∀ k : Fin 8, zand (zshr (m.val : Int) (k.val : Int)) 1 = bt m.val k.val := by decide +kernel
theorem or_f : ∀ m : Fin 256, ∀ k : Fin 8, zor (m.val : Int) (zshl 1 (k.val : Int)) = ((put1 m.val k.val : Nat) : Int) := by decide +kernel
theorem cl_f : ∀ m : Fin 256, ∀ k : Fin 8, zand (m.val : Int) (zxor (zshl 1 (k.val : Int)) (-1)) = ((clr m.val k.val : Nat) : Int) := by decide +kernel
theorem pc_f : ∀ m : Fin 256, f_J6_bitCount_0f7a4 (m.val : Int) = ((pc m.val : Nat) : Int) := by decide +kernel
theorem pl_f : ∀ m : Fin 256, ∀ k : Fin 8, put1 m.val k.val < 256 ∧ clr m.val k.val < 256 := by decide +kernel
theorem pt_f : ∀ m : Fin 256, ∀ k j : Fin 8, (put1 m.val k.val).testBit j.val = (m.val.testBit j.val || decide (j.val = k.val)) ∧ (clr m.val k.val).testBit j.val = (m.val.testBit j.val && !decide (j.val = k.val)) := by decide +kernel
theorem bit_n {m k : Nat} (h : m < 256) (hk : k < 8) : zand (zshr (m : Int) (k : Int)) 1 = bt m k := bit_f ⟨m, h⟩ ⟨k, hk⟩
theorem or_n {m k : Nat} (h : m < 256) (hk : k < 8) : zor (m : Int) (zshl 1 (k : Int)) = ((put1 m k : Nat) : Int) := or_f ⟨m, h⟩ ⟨k, hk⟩
theorem cl_n {m k : Nat} (h : m < 256) (hk : k < 8) : zand (m : Int) (zxor (zshl 1 (k : Int)) (-1)) = ((clr m k : Nat) : Int) := cl_f ⟨m, h⟩ ⟨k, hk⟩
theorem pc_n {m : Nat} (h : m < 256) : f_J6_bitCount_0f7a4 (m : Int) = ((pc m : Nat) : Int) := pc_f ⟨m, h⟩
theorem put1_lt {m k : Nat} (h : m < 256) (hk : k < 8) : put1 m k < 256 := (pl_f ⟨m, h⟩ ⟨k, hk⟩).1
theorem clr_lt {m k : Nat} (h : m < 256) (hk : k < 8) : clr m k < 256 := (pl_f ⟨m, h⟩ ⟨k, hk⟩).2
theorem tb_hi {m j : Nat} (h : m < 256) (hj : 8 ≤ j) : m.testBit j = false := Nat.testBit_lt_two_pow (Nat.lt_of_lt_of_le h (Nat.pow_le_pow_right (n := 2) (by decide) hj : 2 ^ 8 ≤ 2 ^ j))
theorem put1_tb {m k j : Nat} (h : m < 256) (hk : k < 8) : (put1 m k).testBit j = (m.testBit j || decide (j = k)) := by
  by_cases hj : j < 8
  · exact (pt_f ⟨m, h⟩ ⟨k, hk⟩ ⟨j, hj⟩).1
  · rw [tb_hi (put1_lt h hk) (by omega), tb_hi h (by omega)]
    simp; omega
theorem clr_tb {m k j : Nat} (h : m < 256) (hk : k < 8) : (clr m k).testBit j = (m.testBit j && !decide (j = k)) := by
  by_cases hj : j < 8
  · exact (pt_f ⟨m, h⟩ ⟨k, hk⟩ ⟨j, hj⟩).2
  · rw [tb_hi (clr_lt h hk) (by omega), tb_hi h (by omega)]
    simp
theorem bt01 (m k : Nat) : bt m k = 0 ∨ bt m k = 1 := by unfold bt; split <;> simp
theorem bt_1 {m k : Nat} : bt m k = 1 ↔ m.testBit k = true := by unfold bt; split <;> simp_all
theorem bt_0 {m k : Nat} : bt m k = 0 ↔ m.testBit k = false := by unfold bt; split <;> simp_all
theorem has_n {m k : Nat} (h : m < 256) (hk : k < 8) : f_X12_has (m : Int) (k : Int) = bt m k := by
  unfold f_X12_has
  rw [bit_n h hk]
  rcases bt01 m k with e | e <;> rw [e] <;> rfl
theorem mem8_mem {m k : Nat} : k ∈ mem8 m ↔ k < 8 ∧ m.testBit k = true := by simp [mem8]
theorem members_f : ∀ m : Fin 256, f_X12_members (m.val : Int) = some ((pc m.val : Nat) : Int) := by
  intro m
  unfold f_X12_members
  have hb : ∀ k : Nat, k < 8 → zand (zshr (m.val : Int) (k : Int)) 1 = bt m.val k := fun k hk => bit_n m.isLt hk
  refine Ret_eq (Ret_bind (P := fun r => r = ((pc m.val : Nat) : Int)) (Ret_lp (fun c q => q = (((((List.range c).filter (fun k => m.val.testBit k)).length : Nat) : Int), (c : Int))) 8 (by decide) rfl (fun c q hc hI => ?_) (fun q hI => ?_)) (fun r hr => Ret_some hr))
  · subst hI
    have hl : ((List.range c).filter (fun k => m.val.testBit k)).length ≤ c := by
      have := List.length_filter_le (fun k => m.val.testBit k) (List.range c)
      simpa using this
    dsimp only [jn]
    rw [if_pos (by omega), hb c hc, List.range_succ, List.filter_append, List.length_append]
    unfold bt
    refine Ret_some ⟨_, rfl, ?_⟩
    cases e : m.val.testBit c
    · rw [if_neg (by simp), wr_id (by omega) (by omega), wr_id (by omega) (by omega)]
      simp [e]
    · rw [if_pos rfl, wr_id (by omega) (by omega), wr_id (by omega) (by omega)]
      simp [e]
  · subst hI
    dsimp only
    rw [if_neg (by omega)]
    exact Ret_some ⟨_, rfl, rfl⟩
theorem members_n {m : Nat} (h : m < 256) : f_X12_members (m : Int) = some ((pc m : Nat) : Int) := members_f ⟨m, h⟩
-- and, xor of two sets, by their bits
theorem zi_nat (a : Nat) : (zi (a : Int)).toBitVec = BitVec.ofNat 32 a := by
  unfold zi
  rw [Int32.toBitVec_ofInt, BitVec.ofInt_natCast]
theorem zand_n {a b : Nat} (ha : a < 256) (hb : b < 256) : zand (a : Int) (b : Int) = ((a &&& b : Nat) : Int) := by
  unfold zand
  rw [← Int32.toInt_toBitVec, Int32.toBitVec_and, zi_nat, zi_nat, BitVec.toInt_eq_toNat_of_lt, BitVec.toNat_and, BitVec.toNat_ofNat, BitVec.toNat_ofNat, Nat.mod_eq_of_lt (by omega), Nat.mod_eq_of_lt (by omega)]
  rw [BitVec.toNat_and, BitVec.toNat_ofNat, BitVec.toNat_ofNat, Nat.mod_eq_of_lt (by omega), Nat.mod_eq_of_lt (by omega)]
  have := Nat.and_le_left (n := a) (m := b)
  omega
theorem zxor_n {a b : Nat} (ha : a < 256) (hb : b < 256) : zxor (a : Int) (b : Int) = ((a ^^^ b : Nat) : Int) := by
  have h : a ^^^ b < 2 ^ 8 := Nat.xor_lt_two_pow (n := 8) ha hb
  unfold zxor
  rw [← Int32.toInt_toBitVec, Int32.toBitVec_xor, zi_nat, zi_nat, BitVec.toInt_eq_toNat_of_lt, BitVec.toNat_xor, BitVec.toNat_ofNat, BitVec.toNat_ofNat, Nat.mod_eq_of_lt (by omega), Nat.mod_eq_of_lt (by omega)]
  rw [BitVec.toNat_xor, BitVec.toNat_ofNat, BitVec.toNat_ofNat, Nat.mod_eq_of_lt (by omega), Nat.mod_eq_of_lt (by omega)]
  omega
theorem zand255 (x : Int) : 0 ≤ zand x 255 ∧ zand x 255 ≤ 255 := by
  have h : ((zi x).toBitVec &&& BitVec.ofNat 32 255).toNat ≤ 255 := by
    rw [BitVec.toNat_and, BitVec.toNat_ofNat]
    exact Nat.le_trans Nat.and_le_right (by decide)
  unfold zand
  rw [show zi 255 = zi ((255 : Nat) : Int) from rfl, ← Int32.toInt_toBitVec, Int32.toBitVec_and, zi_nat, BitVec.toInt_eq_toNat_of_lt (by omega)]
  omega
