/-! the class Row: its fields as a list of numbers -/
def rget (l : List Int) (z : Int) : Option Int := if 0 ≤ z ∧ z < l.length then some (lat l z) else none
def rset (S : Sst) (p : Nat) (z v : Int) : Option Sst := if 0 ≤ z ∧ z < (S.1 p).length then some (upR S p ((S.1 p).set z.toNat v)) else none
def rcnt (S : Sst) (p : Nat) (v : Int) : Option Sst := if 0 ≤ v ∧ v ≤ (S.1 p).length then some (upR S p ((S.1 p).take v.toNat)) else none
def f_X6_size (p : Nat) (S : Sst) : Int := ((S.1 p).length : Int)
def f_X6_at (p : Nat) (a1 : Int) (S : Sst) : Int := lat (S.1 p) a1
def f_X6_put (p : Nat) (a1 a2 : Int) (S : Sst) : Sst := upR S p (if 0 ≤ a1 then (S.1 p).set a1.toNat a2 else S.1 p)
def f_X6_add (p : Nat) (a1 : Int) (S : Sst) : Sst := upR S p (if (S.1 p).length < Ln (p + 1) then S.1 p ++ [a1] else S.1 p)
def f_X6_addUnlessNone (p : Nat) (a1 : Int) (S : Sst) : Sst := if a1 = -1 then S else f_X6_add p a1 S
def f_X6_takeLast (p : Nat) (S : Sst) : Int × Sst := (lat (S.1 p) ((S.1 p).length - 1), upR S p (S.1 p).dropLast)
def f_X6_last (p : Nat) (S : Sst) : Int := lat (S.1 p) ((S.1 p).length - 1)
def f_X6_keep (p : Nat) (a1 : Int) (S : Sst) : Sst := upR S p (if 0 ≤ a1 then (S.1 p).take a1.toNat else S.1 p)
def f_X6_clear (p : Nat) (S : Sst) : Sst := upR S p []
def f_X6_fill (p : Nat) (a1 a2 : Int) (S : Sst) : Sst := upR S p (List.replicate (min a1.toNat (Ln (p + 1))) a2)
def f_X6_takeFrom (p o1 : Nat) (S : Sst) : Sst := upR S p (if p = o1 then [] else (S.1 o1).take (Ln (p + 1)))
theorem upR_self (S : Sst) (p : Nat) : upR S p (S.1 p) = S := by
  unfold upR
  have : (fun k => if k = p then S.1 p else S.1 k) = S.1 := by
    funext k
    by_cases h : k = p
    · subst h; simp
    · simp [h]
  rw [this]
theorem upR_at (S : Sst) (p : Nat) (l : List Int) : (upR S p l).1 p = l := by simp [upR]
theorem upR_ne (S : Sst) {p k : Nat} (l : List Int) (h : k ≠ p) : (upR S p l).1 k = S.1 k := by simp [upR, h]
theorem upR_up (S : Sst) (p : Nat) (l l' : List Int) : upR (upR S p l) p l' = upR S p l' := by
  unfold upR
  congr 1
  funext k
  by_cases h : k = p <;> simp [h]
theorem Ln_small : ∀ k, Ln k ≤ 22695 := by
  intro k
  unfold Ln
  have key : ∀ x ∈ Lnl, x ≤ 22695 := by decide +kernel
  rw [List.getD_eq_getElem?_getD]
  cases h : Lnl[k]? with
  | none => simp
  | some x => exact key x (List.mem_of_getElem? h)
theorem Ln_IR (k : Nat) : IR (Ln k) := by
  have := Ln_small k
  exact ⟨by omega, by omega⟩
theorem agrR {M : Smo} {S : Sst} {O : Smo} {p : Nat} {l : List Int} {M' : Smo} (h : zagr M S O) (h6 : Kd p = 6) (h1 : ∀ a, a ≠ p → a ≠ p + 1 → M' a = M a) (h2 : M' p 1 = l.length) (h3 : l.length ≤ Ln (p + 1)) (h4 : ∀ i, i < l.length → M' (p + 1) i = l.getD i 0) : zagr M' (upR S p l) O := by
  intro a
  obtain ⟨g1, g2⟩ := h a
  have hk1 := Kd6 h6
  refine ⟨fun q => ?_, fun q1 q2 b => ?_⟩
  · by_cases e : a = p
    · subst e
      rw [upR_at]
      exact ⟨h2, h3, h4⟩
    · rw [upR_ne S l e]
      have n1 : a ≠ p + 1 := fun e => by rw [e, hk1] at q; cases q
      have n2 : a + 1 ≠ p := fun e => by have := Kd6 q; rw [e, h6] at this; cases this
      have n3 : a + 1 ≠ p + 1 := by omega
      rw [h1 a e n1, h1 (a + 1) n2 n3]
      exact g1 q
  · have n0 : a ≠ p := fun e => q1 (by rw [e]; exact h6)
    have n1 : a ≠ p + 1 := fun e => q2 (by rw [e]; exact hk1)
    rw [h1 a n0 n1]
    exact g2 q1 q2 b
theorem zty_row {p j : Nat} (h : Kd p = 6) : zty p j = fkd 6 j := zty_obj h (by decide)
theorem zty_cells {p i : Nat} (h : Kd p = 6) : zty (p + 1) i = 0 := by
  unfold zty
  rw [Kd6 h]
  rfl
section ROWOBJ
variable {γ : Type} {E : EwT} {K : KxT} {bf : γ} {n : Nat} {R : Srf} {S : Sst} {O : Smo} {cs sl : Nat} {L : List (Nat × Value)} {pc : Nat} {st : List Value} {t : γ}
variable {y : MethodName} {cc : ByteArray} {nL : Nat} {rm : Room} {ret : Option FieldType} {p idx : Nat}
theorem r_rowCnt (C : Cx E K y cc nL rm ret) (g6 : gRw n R p) (q : Cond.fieldLink y.cls idx "StampMap$Row" "count" "I" ∈ TB) (d : decode cc pc = .ok (.getfield idx, 3))
    (g : IR ((S.1 p).length : Int) → GG E K bf n R S O cs sl L (pc + 3) (.int (zi ((S.1 p).length : Int)) :: st) t) : GG E K bf n R S O cs sl L pc (.ref (zad E p) :: st) t := fun e H locs ls hR hS hl => by
  obtain ⟨M, hraw, hag⟩ := hR
  obtain ⟨e1, e2, e3⟩ := (hag p).1 g6.1
  have hi : IR ((S.1 p).length : Int) := e1 ▸ rgI hraw (t := 0) (by rw [zty_row g6.1]; rfl) (by decide) (by decide)
  refine rawget C cl_X6 g6.1 (gRw_k g6).2.1 (j := 1) (by decide) q d hraw.2.1 ?_
  rw [show zfld E R M p 1 = .int (zi ((S.1 p).length : Int)) by rw [zfld, g6.1, e1]; rfl]
  exact g hi e H locs ls ⟨M, hraw, hag⟩ hS hl
theorem r_rowLen (C : Cx E K y cc nL rm ret) (g6 : gRw n R p) (d : decode cc pc = .ok (.arraylength, 1)) (g : GG E K bf n R S O cs sl L (pc + 1) (.int (zi (Ln (p + 1))) :: st) t) : GG E K bf n R S O cs sl L pc (.ref (zad E (p + 1)) :: st) t :=
  r_alen C (Or.inr (Or.inl (Kd6 g6.1))) g6.2.1 d g
theorem r_rowLd {z : Int} {F : Int → Option γ} (C : Cx E K y cc nL rm ret) (g6 : gRw n R p) (hz : IR z) (d : decode cc pc = .ok (.iaload, 1))
    (g : ∀ v, IR v → GG E K (some bf) n R S O cs sl L (pc + 1) (.int (zi v) :: st) (F v)) : GG E K (some bf) n R S O cs sl L pc (.int (zi z) :: .ref (zad E (p + 1)) :: st) (Option.bind (rget (S.1 p) z) F) := fun e H locs ls hR hS hl => by
  obtain ⟨M, hraw, hag⟩ := hR
  obtain ⟨e1, e2, e3⟩ := (hag p).1 g6.1
  unfold rget at e
  by_cases h : 0 ≤ z ∧ z < (S.1 p).length
  · rw [if_pos h] at e
    have hz2 : z.toNat < (S.1 p).length := by omega
    have hv : M (p + 1) z.toNat = lat (S.1 p) z := by
      rw [e3 _ hz2]
      unfold lat
      rw [if_pos h.1, List.getD_eq_getElem?_getD, List.getD_eq_getElem?_getD, List.getElem?_eq_getElem hz2]
      rfl
    refine rawiald C (Or.inr (Kd6 g6.1)) g6.2.1 hz h.1 (by omega) d hraw.2.1 ?_
    rw [hv]
    exact g _ (hv ▸ rgI hraw (t := 0) (zty_cells g6.1) (by decide) (by decide)) e H locs ls ⟨M, hraw, hag⟩ hS hl
  · rw [if_neg h] at e
    cases e
theorem r_rowSt {z v : Int} {F : Sst → Option γ} (C : Cx E K y cc nL rm ret) (g6 : gRw n R p) (hz : IR z) (hv : IR v) (d : decode cc pc = .ok (.iastore, 1))
    (g : ∀ S', GG E K (some bf) n R S' O cs sl L (pc + 1) st (F S')) : GG E K (some bf) n R S O cs sl L pc (.int (zi v) :: .int (zi z) :: .ref (zad E (p + 1)) :: st) (Option.bind (rset S p z v) F) := fun e H locs ls hR hS hl => by
  obtain ⟨M, hraw, hag⟩ := hR
  obtain ⟨e1, e2, e3⟩ := (hag p).1 g6.1
  unfold rset at e
  by_cases h : 0 ≤ z ∧ z < (S.1 p).length
  · rw [if_pos h] at e
    refine rawiast C (Or.inr (Kd6 g6.1)) g6.2.1 hz h.1 (by omega) d hraw.2.1 hS fun H1 locs1 hz1 hcs hS1 => ?_
    refine g _ e H1 locs1 ls ⟨_, upraw hraw g6.2.1 hz1 hcs (by rw [zty_cells g6.1]; exact hv), agrR hag g6.1 (fun a h1 h2 => ?_) ?_ (by simpa using e2) (fun i hi => ?_)⟩ hS1 hl
    · funext b
      simp [up2, h2]
    · simpa [up2] using e1
    · rw [List.length_set] at hi
      by_cases hiz : i = z.toNat
      · subst hiz
        simp [up2, List.getElem?_set, hi]
      · have h2 := e3 i hi
        simp only [List.getD_eq_getElem?_getD] at h2 ⊢
        rw [List.getElem?_set_ne (Ne.symm hiz), ← h2]
        simp [up2, hiz]
  · rw [if_neg h] at e
    cases e
theorem r_rowPut {v : Int} {F : Sst → Option γ} (C : Cx E K y cc nL rm ret) (g6 : gRw n R p) (hv : IR v) (q : Cond.fieldLink y.cls idx "StampMap$Row" "count" "I" ∈ TB) (d : decode cc pc = .ok (.putfield idx, 3))
    (g : ∀ S', GG E K (some bf) n R S' O cs sl L (pc + 3) st (F S')) : GG E K (some bf) n R S O cs sl L pc (.int (zi v) :: .ref (zad E p) :: st) (Option.bind (rcnt S p v) F) := fun e H locs ls hR hS hl => by
  obtain ⟨M, hraw, hag⟩ := hR
  obtain ⟨e1, e2, e3⟩ := (hag p).1 g6.1
  unfold rcnt at e
  by_cases h : 0 ≤ v ∧ v ≤ (S.1 p).length
  · rw [if_pos h] at e
    refine rawput C cl_X6 g6.1 (gRw_k g6).2.1 (j := 1) (by decide) q d (Or.inl rfl) rfl rfl hraw.2.1 hS (fun k' h => zcell_up h) (zfld_up (z := v) (by rw [zfld, g6.1]; simp [up2]; rfl)) fun H1 locs1 hz hcs hS1 => ?_
    have hlen : ((S.1 p).take v.toNat).length = v.toNat := by rw [List.length_take]; omega
    refine g _ e H1 locs1 ls ⟨_, upraw hraw (gRw_k g6).2.1 hz hcs (by rw [zty_row g6.1]; exact hv), agrR hag g6.1 (fun a h1 h2 => ?_) ?_ (by omega) (fun i hi => ?_)⟩ hS1 hl
    · funext b
      simp [up2, h1]
    · rw [hlen]
      simp [up2]
      omega
    · rw [hlen] at hi
      have h2 := e3 i (by omega)
      simp only [List.getD_eq_getElem?_getD] at h2 ⊢
      rw [List.getElem?_take_of_lt hi, ← h2]
      simp [up2]
  · rw [if_neg h] at e
    cases e
theorem r_len (g6 : gRw n R p) (g : (S.1 p).length ≤ Ln (p + 1) → GG E K bf n R S O cs sl L pc st t) : GG E K bf n R S O cs sl L pc st t := fun e H locs ls hR hS hl => by
  have hR2 := hR
  obtain ⟨M, hraw, hag⟩ := hR2
  exact g ((hag p).1 g6.1).2.1 e H locs ls hR hS hl
theorem r_conv {t' : Option γ} (h : t' = some t) (g : GG E K (some bf) n R S O cs sl L pc st t') : GG E K bf n R S O cs sl L pc st t := fun e => g (by rw [h, e])
theorem r_eq {t' : γ} (h : t' = t) (g : GG E K bf n R S O cs sl L pc st t') : GG E K bf n R S O cs sl L pc st t := h ▸ g
end ROWOBJ
theorem lp_run {σ ρ : Type} {step : σ → Option (σ ⊕ ρ)} (st : Nat → σ) (r : ρ) : ∀ (n m : Nat), n < m → (∀ i, i < n → step (st i) = some (.inl (st (i + 1)))) → step (st n) = some (.inr r) → lp step m (st 0) = some r := by
  have key : ∀ (n m j : Nat), n < m → (∀ i, i < n → step (st (j + i)) = some (.inl (st (j + (i + 1))))) → step (st (j + n)) = some (.inr r) → lp step m (st j) = some r := by
    intro n
    induction n with
    | zero =>
      intro m j hm _ hn
      obtain ⟨m, rfl⟩ : ∃ k, m = k + 1 := ⟨m - 1, by omega⟩
      show Option.bind (step (st j)) _ = _
      rw [Nat.add_zero] at hn
      rw [hn]
      rfl
    | succ n ih =>
      intro m j hm hs hn
      obtain ⟨m, rfl⟩ : ∃ k, m = k + 1 := ⟨m - 1, by omega⟩
      show Option.bind (step (st j)) _ = _
      have h0 := hs 0 (by omega)
      rw [Nat.add_zero] at h0
      rw [h0]
      show lp step m (st (j + 1)) = some r
      refine ih m (j + 1) (by omega) (fun i hi => ?_) ?_
      · have := hs (i + 1) (by omega)
        rw [show j + 1 + i = j + (i + 1) by omega, show j + 1 + (i + 1) = j + (i + 1 + 1) by omega]
        exact this
      · rw [show j + 1 + n = j + (n + 1) by omega]
        exact hn
  intro n m hm hs hn
  refine key n m 0 hm (fun i hi => ?_) ?_
  · rw [Nat.zero_add, Nat.zero_add]; exact hs i hi
  · rw [Nat.zero_add]; exact hn
theorem lp_to {σ ρ : Type} {step : σ → Option (σ ⊕ ρ)} {s0 : σ} (st : Nat → σ) (r : ρ) (n : Nat) {m : Nat} (h0 : st 0 = s0) (hm : n < m) (h : ∀ i, i < n → step (st i) = some (.inl (st (i + 1)))) (hn : step (st n) = some (.inr r)) : lp step m s0 = some r := h0 ▸ lp_run st r n m hm h hn
theorem wr_nat {k : Nat} (h : k < 2147483648) : wr (k : Int) = k := wr_id (by omega) (by omega)
