/-! BASE 5: rows of fields and arrays, over the goal predicate -/
section ROWS2
variable {γ : Type} {E : EwT} {K : KxT} {bf : γ} {n : Nat} {R : Srf} {S : Sst} {O : Smo} {cs sl : Nat} {L : List (Nat × Value)} {pc : Nat} {st : List Value} {t : γ}
variable {y : MethodName} {cc : ByteArray} {nL : Nat} {rm : Room} {ret : Option FieldType} {ci : Nat} {Cn : String} {T : u_T} {N : Nat} {ty : Nat → FieldType} {k j idx : Nat}
theorem rgI {M : Smo} {H : Heap} (h : zRaw E n R M H) {k j t : Nat} (ht : zty k j = t) (h1 : t ≠ 1) (h3 : t ≠ 3) : IR (M k j) := by
  have := h.2.2.1 k j
  unfold zrg at this
  rwa [ht, if_neg h1, if_neg h3] at this
theorem rgB {M : Smo} {H : Heap} (h : zRaw E n R M H) {k j : Nat} (ht : zty k j = 3) : BR (M k j) := by
  have := h.2.2.1 k j
  unfold zrg at this
  rwa [ht, if_neg (by decide), if_pos rfl] at this
theorem rgL {M : Smo} {H : Heap} (h : zRaw E n R M H) {k j : Nat} (ht : zty k j = 1) : LR (M k j) := by
  have := h.2.2.1 k j
  unfold zrg at this
  rwa [ht, if_pos rfl] at this
theorem ne_100 {a b : Nat} (h : Kd k = a) (hab : a ≠ b) : Kd k ≠ b := fun q => hab (h.symm.trans q)
-- reading fields
theorem r_getS (C : Cx E K y cc nL rm ret) (hC : ClsOK ci Cn T N ty) (hk : Kd k = ci) (hn : k < n) (hc : k < nC) (h6 : ci ≠ 6) (hj : j < N) (hf : fkd ci j = 0) (q : Cond.fieldLink y.cls idx Cn (T j).2.1 (T j).2.2.1 ∈ TB) (d : decode cc pc = .ok (.getfield idx, 3))
    (g : IR (S.2 k j) → GG E K bf n R S O cs sl L (pc + 3) (.int (zi (S.2 k j)) :: st) t) : GG E K bf n R S O cs sl L pc (.ref (zad E k) :: st) t := fun e H locs ls hR hS hl => by
  obtain ⟨M, hraw, hag⟩ := hR
  have h100 : ci < 100 := hC.2.2.2.1
  have hv := valS hag (ne_100 hk h6) (ne_100 hk (by omega)) hc j
  have hi : IR (S.2 k j) := hv ▸ rgI hraw (by rw [zty_obj hk h100, hf]) (by decide) (by decide)
  refine rawget C hC hk hn hj q d hraw.2.1 ?_
  rw [show zfld E R M k j = .int (zi (S.2 k j)) by rw [zfld, hk, hf, hv]; rfl]
  exact g hi e H locs ls ⟨M, hraw, hag⟩ hS hl
theorem r_getSz (C : Cx E K y cc nL rm ret) (hC : ClsOK ci Cn T N ty) (hk : Kd k = ci) (hn : k < n) (hc : k < nC) (h6 : ci ≠ 6) (hj : j < N) (hf : fkd ci j = 3) (q : Cond.fieldLink y.cls idx Cn (T j).2.1 (T j).2.2.1 ∈ TB) (d : decode cc pc = .ok (.getfield idx, 3))
    (g : BR (S.2 k j) → GG E K bf n R S O cs sl L (pc + 3) (.int (zi (S.2 k j)) :: st) t) : GG E K bf n R S O cs sl L pc (.ref (zad E k) :: st) t := fun e H locs ls hR hS hl => by
  obtain ⟨M, hraw, hag⟩ := hR
  have h100 : ci < 100 := hC.2.2.2.1
  have hv := valS hag (ne_100 hk h6) (ne_100 hk (by omega)) hc j
  have hi : BR (S.2 k j) := hv ▸ rgB hraw (by rw [zty_obj hk h100, hf])
  refine rawget C hC hk hn hj q d hraw.2.1 ?_
  rw [show zfld E R M k j = .int (zi (S.2 k j)) by rw [zfld, hk, hf, hv]; rfl]
  exact g hi e H locs ls ⟨M, hraw, hag⟩ hS hl
theorem r_getSl (C : Cx E K y cc nL rm ret) (hC : ClsOK ci Cn T N ty) (hk : Kd k = ci) (hn : k < n) (hc : k < nC) (h6 : ci ≠ 6) (hj : j < N) (hf : fkd ci j = 1) (q : Cond.fieldLink y.cls idx Cn (T j).2.1 (T j).2.2.1 ∈ TB) (d : decode cc pc = .ok (.getfield idx, 3))
    (g : LR (S.2 k j) → GG E K bf n R S O cs sl L (pc + 3) (.long (zl (S.2 k j)) :: st) t) : GG E K bf n R S O cs sl L pc (.ref (zad E k) :: st) t := fun e H locs ls hR hS hl => by
  obtain ⟨M, hraw, hag⟩ := hR
  have h100 : ci < 100 := hC.2.2.2.1
  have hv := valS hag (ne_100 hk h6) (ne_100 hk (by omega)) hc j
  have hi : LR (S.2 k j) := hv ▸ rgL hraw (by rw [zty_obj hk h100, hf])
  refine rawget C hC hk hn hj q d hraw.2.1 ?_
  rw [show zfld E R M k j = .long (zl (S.2 k j)) by rw [zfld, hk, hf, hv]; rfl]
  exact g hi e H locs ls ⟨M, hraw, hag⟩ hS hl
theorem r_getO (C : Cx E K y cc nL rm ret) (hC : ClsOK ci Cn T N ty) (hk : Kd k = ci) (hn : k < n) (hc : nC ≤ k) (h6 : ci ≠ 6) (hj : j < N) (hf : fkd ci j = 0) (q : Cond.fieldLink y.cls idx Cn (T j).2.1 (T j).2.2.1 ∈ TB) (d : decode cc pc = .ok (.getfield idx, 3))
    (g : IR (O k j) → GG E K bf n R S O cs sl L (pc + 3) (.int (zi (O k j)) :: st) t) : GG E K bf n R S O cs sl L pc (.ref (zad E k) :: st) t := fun e H locs ls hR hS hl => by
  obtain ⟨M, hraw, hag⟩ := hR
  have h100 : ci < 100 := hC.2.2.2.1
  have hv := valO hag (ne_100 hk h6) (ne_100 hk (by omega)) hc j
  have hi : IR (O k j) := hv ▸ rgI hraw (by rw [zty_obj hk h100, hf]) (by decide) (by decide)
  refine rawget C hC hk hn hj q d hraw.2.1 ?_
  rw [show zfld E R M k j = .int (zi (O k j)) by rw [zfld, hk, hf, hv]; rfl]
  exact g hi e H locs ls ⟨M, hraw, hag⟩ hS hl
theorem r_getOz (C : Cx E K y cc nL rm ret) (hC : ClsOK ci Cn T N ty) (hk : Kd k = ci) (hn : k < n) (hc : nC ≤ k) (h6 : ci ≠ 6) (hj : j < N) (hf : fkd ci j = 3) (q : Cond.fieldLink y.cls idx Cn (T j).2.1 (T j).2.2.1 ∈ TB) (d : decode cc pc = .ok (.getfield idx, 3))
    (g : BR (O k j) → GG E K bf n R S O cs sl L (pc + 3) (.int (zi (O k j)) :: st) t) : GG E K bf n R S O cs sl L pc (.ref (zad E k) :: st) t := fun e H locs ls hR hS hl => by
  obtain ⟨M, hraw, hag⟩ := hR
  have h100 : ci < 100 := hC.2.2.2.1
  have hv := valO hag (ne_100 hk h6) (ne_100 hk (by omega)) hc j
  have hi : BR (O k j) := hv ▸ rgB hraw (by rw [zty_obj hk h100, hf])
  refine rawget C hC hk hn hj q d hraw.2.1 ?_
  rw [show zfld E R M k j = .int (zi (O k j)) by rw [zfld, hk, hf, hv]; rfl]
  exact g hi e H locs ls ⟨M, hraw, hag⟩ hS hl
theorem r_getOl (C : Cx E K y cc nL rm ret) (hC : ClsOK ci Cn T N ty) (hk : Kd k = ci) (hn : k < n) (hc : nC ≤ k) (h6 : ci ≠ 6) (hj : j < N) (hf : fkd ci j = 1) (q : Cond.fieldLink y.cls idx Cn (T j).2.1 (T j).2.2.1 ∈ TB) (d : decode cc pc = .ok (.getfield idx, 3))
    (g : LR (O k j) → GG E K bf n R S O cs sl L (pc + 3) (.long (zl (O k j)) :: st) t) : GG E K bf n R S O cs sl L pc (.ref (zad E k) :: st) t := fun e H locs ls hR hS hl => by
  obtain ⟨M, hraw, hag⟩ := hR
  have h100 : ci < 100 := hC.2.2.2.1
  have hv := valO hag (ne_100 hk h6) (ne_100 hk (by omega)) hc j
  have hi : LR (O k j) := hv ▸ rgL hraw (by rw [zty_obj hk h100, hf])
  refine rawget C hC hk hn hj q d hraw.2.1 ?_
  rw [show zfld E R M k j = .long (zl (O k j)) by rw [zfld, hk, hf, hv]; rfl]
  exact g hi e H locs ls ⟨M, hraw, hag⟩ hS hl
theorem r_getR {r : Nat} (C : Cx E K y cc nL rm ret) (hC : ClsOK ci Cn T N ty) (hk : Kd k = ci) (hn : k < n) (hj : j < N) (hf : fkd ci j = 2) (hr : R k j = r) (h0 : r ≠ 0) (q : Cond.fieldLink y.cls idx Cn (T j).2.1 (T j).2.2.1 ∈ TB) (d : decode cc pc = .ok (.getfield idx, 3))
    (g : GG E K bf n R S O cs sl L (pc + 3) (.ref (zad E r) :: st) t) : GG E K bf n R S O cs sl L pc (.ref (zad E k) :: st) t := fun e H locs ls hR hS hl => by
  obtain ⟨M, hraw, hag⟩ := hR
  refine rawget C hC hk hn hj q d hraw.2.1 ?_
  rw [show zfld E R M k j = .ref (zad E r) by rw [zfld, hk, hf, hr, zrv, if_neg h0]; rfl]
  exact g e H locs ls ⟨M, hraw, hag⟩ hS hl
-- writing fields
theorem r_putS {v : Int} {F : Sst → γ} (C : Cx E K y cc nL rm ret) (hC : ClsOK ci Cn T N ty) (hk : Kd k = ci) (hn : k < n) (hc : k < nC) (h6 : ci ≠ 6) (hj : j < N) (hf : fkd ci j = 0) (hty : ty j = .int) (hfin : (T j).2.2.2 = false) (hv : IR v) (q : Cond.fieldLink y.cls idx Cn (T j).2.1 (T j).2.2.1 ∈ TB) (d : decode cc pc = .ok (.putfield idx, 3))
    (g : ∀ S', GG E K bf n R S' O cs sl L (pc + 3) st (F S')) : GG E K bf n R S O cs sl L pc (.int (zi v) :: .ref (zad E k) :: st) (jn (upS S k j v) F) := fun e H locs ls hR hS hl => by
  obtain ⟨M, hraw, hag⟩ := hR
  have h100 : ci < 100 := hC.2.2.2.1
  refine rawput C hC hk hn hj q d (Or.inl hfin) (by rw [hty]; rfl) (by rw [hty]; rfl) hraw.2.1 hS (fun k' h => zcell_up h) (zfld_up (z := v) (by rw [zfld, hk, hf]; simp [up2])) fun H1 locs1 hz hcs hS1 => ?_
  exact g _ e H1 locs1 ls ⟨_, upraw hraw hn hz hcs (by rw [zty_obj hk h100, hf]; exact hv), upagrS hag (ne_100 hk h6) (ne_100 hk (by omega)) hc⟩ hS1 hl
theorem r_putSz {v : Int} {F : Sst → γ} (C : Cx E K y cc nL rm ret) (hC : ClsOK ci Cn T N ty) (hk : Kd k = ci) (hn : k < n) (hc : k < nC) (h6 : ci ≠ 6) (hj : j < N) (hf : fkd ci j = 3) (hty : ty j = .boolean) (hfin : (T j).2.2.2 = false) (hv : BR v) (q : Cond.fieldLink y.cls idx Cn (T j).2.1 (T j).2.2.1 ∈ TB) (d : decode cc pc = .ok (.putfield idx, 3))
    (g : ∀ S', GG E K bf n R S' O cs sl L (pc + 3) st (F S')) : GG E K bf n R S O cs sl L pc (.int (zi v) :: .ref (zad E k) :: st) (jn (upS S k j v) F) := fun e H locs ls hR hS hl => by
  obtain ⟨M, hraw, hag⟩ := hR
  have h100 : ci < 100 := hC.2.2.2.1
  have hb : v = 0 ∨ v = 1 := by have := hv.1; have := hv.2; omega
  refine rawput C hC hk hn hj q d (Or.inl hfin) (by rw [hty]; rcases hb with rfl | rfl <;> rfl) (by rw [hty]; rcases hb with rfl | rfl <;> rfl) hraw.2.1 hS (fun k' h => zcell_up h) (zfld_up (z := v) (by rw [zfld, hk, hf]; simp [up2])) fun H1 locs1 hz hcs hS1 => ?_
  exact g _ e H1 locs1 ls ⟨_, upraw hraw hn hz hcs (by rw [zty_obj hk h100, hf]; exact hv), upagrS hag (ne_100 hk h6) (ne_100 hk (by omega)) hc⟩ hS1 hl
theorem r_putSl {v : Int} {F : Sst → γ} (C : Cx E K y cc nL rm ret) (hC : ClsOK ci Cn T N ty) (hk : Kd k = ci) (hn : k < n) (hc : k < nC) (h6 : ci ≠ 6) (hj : j < N) (hf : fkd ci j = 1) (hty : ty j = .long) (hfin : (T j).2.2.2 = false) (hv : LR v) (q : Cond.fieldLink y.cls idx Cn (T j).2.1 (T j).2.2.1 ∈ TB) (d : decode cc pc = .ok (.putfield idx, 3))
    (g : ∀ S', GG E K bf n R S' O cs sl L (pc + 3) st (F S')) : GG E K bf n R S O cs sl L pc (.long (zl v) :: .ref (zad E k) :: st) (jn (upS S k j v) F) := fun e H locs ls hR hS hl => by
  obtain ⟨M, hraw, hag⟩ := hR
  have h100 : ci < 100 := hC.2.2.2.1
  refine rawput C hC hk hn hj q d (Or.inl hfin) (by rw [hty]; rfl) (by rw [hty]; rfl) hraw.2.1 hS (fun k' h => zcell_up h) (zfld_up (z := v) (by rw [zfld, hk, hf]; simp [up2])) fun H1 locs1 hz hcs hS1 => ?_
  exact g _ e H1 locs1 ls ⟨_, upraw hraw hn hz hcs (by rw [zty_obj hk h100, hf]; exact hv), upagrS hag (ne_100 hk h6) (ne_100 hk (by omega)) hc⟩ hS1 hl
theorem r_putO {v : Int} {F : Smo → γ} (C : Cx E K y cc nL rm ret) (hC : ClsOK ci Cn T N ty) (hk : Kd k = ci) (hn : k < n) (hc : nC ≤ k) (h6 : ci ≠ 6) (hj : j < N) (hf : fkd ci j = 0) (hty : ty j = .int) (hfin : (T j).2.2.2 = false) (hv : IR v) (q : Cond.fieldLink y.cls idx Cn (T j).2.1 (T j).2.2.1 ∈ TB) (d : decode cc pc = .ok (.putfield idx, 3))
    (g : ∀ O', GG E K bf n R S O' cs sl L (pc + 3) st (F O')) : GG E K bf n R S O cs sl L pc (.int (zi v) :: .ref (zad E k) :: st) (jn (up2 O k j v) F) := fun e H locs ls hR hS hl => by
  obtain ⟨M, hraw, hag⟩ := hR
  have h100 : ci < 100 := hC.2.2.2.1
  refine rawput C hC hk hn hj q d (Or.inl hfin) (by rw [hty]; rfl) (by rw [hty]; rfl) hraw.2.1 hS (fun k' h => zcell_up h) (zfld_up (z := v) (by rw [zfld, hk, hf]; simp [up2])) fun H1 locs1 hz hcs hS1 => ?_
  exact g _ e H1 locs1 ls ⟨_, upraw hraw hn hz hcs (by rw [zty_obj hk h100, hf]; exact hv), upagrO hag (ne_100 hk h6) (ne_100 hk (by omega)) hc⟩ hS1 hl
theorem r_putOz {v : Int} {F : Smo → γ} (C : Cx E K y cc nL rm ret) (hC : ClsOK ci Cn T N ty) (hk : Kd k = ci) (hn : k < n) (hc : nC ≤ k) (h6 : ci ≠ 6) (hj : j < N) (hf : fkd ci j = 3) (hty : ty j = .boolean) (hfin : (T j).2.2.2 = false) (hv : BR v) (q : Cond.fieldLink y.cls idx Cn (T j).2.1 (T j).2.2.1 ∈ TB) (d : decode cc pc = .ok (.putfield idx, 3))
    (g : ∀ O', GG E K bf n R S O' cs sl L (pc + 3) st (F O')) : GG E K bf n R S O cs sl L pc (.int (zi v) :: .ref (zad E k) :: st) (jn (up2 O k j v) F) := fun e H locs ls hR hS hl => by
  obtain ⟨M, hraw, hag⟩ := hR
  have h100 : ci < 100 := hC.2.2.2.1
  have hb : v = 0 ∨ v = 1 := by have := hv.1; have := hv.2; omega
  refine rawput C hC hk hn hj q d (Or.inl hfin) (by rw [hty]; rcases hb with rfl | rfl <;> rfl) (by rw [hty]; rcases hb with rfl | rfl <;> rfl) hraw.2.1 hS (fun k' h => zcell_up h) (zfld_up (z := v) (by rw [zfld, hk, hf]; simp [up2])) fun H1 locs1 hz hcs hS1 => ?_
  exact g _ e H1 locs1 ls ⟨_, upraw hraw hn hz hcs (by rw [zty_obj hk h100, hf]; exact hv), upagrO hag (ne_100 hk h6) (ne_100 hk (by omega)) hc⟩ hS1 hl
theorem r_putOl {v : Int} {F : Smo → γ} (C : Cx E K y cc nL rm ret) (hC : ClsOK ci Cn T N ty) (hk : Kd k = ci) (hn : k < n) (hc : nC ≤ k) (h6 : ci ≠ 6) (hj : j < N) (hf : fkd ci j = 1) (hty : ty j = .long) (hfin : (T j).2.2.2 = false) (hv : LR v) (q : Cond.fieldLink y.cls idx Cn (T j).2.1 (T j).2.2.1 ∈ TB) (d : decode cc pc = .ok (.putfield idx, 3))
    (g : ∀ O', GG E K bf n R S O' cs sl L (pc + 3) st (F O')) : GG E K bf n R S O cs sl L pc (.long (zl v) :: .ref (zad E k) :: st) (jn (up2 O k j v) F) := fun e H locs ls hR hS hl => by
  obtain ⟨M, hraw, hag⟩ := hR
  have h100 : ci < 100 := hC.2.2.2.1
  refine rawput C hC hk hn hj q d (Or.inl hfin) (by rw [hty]; rfl) (by rw [hty]; rfl) hraw.2.1 hS (fun k' h => zcell_up h) (zfld_up (z := v) (by rw [zfld, hk, hf]; simp [up2])) fun H1 locs1 hz hcs hS1 => ?_
  exact g _ e H1 locs1 ls ⟨_, upraw hraw hn hz hcs (by rw [zty_obj hk h100, hf]; exact hv), upagrO hag (ne_100 hk h6) (ne_100 hk (by omega)) hc⟩ hS1 hl
/-- a reference, in a constructor -/
theorem r_putR {r : Nat} {cn : String} (C : Cx E K y cc nL rm ret) (hC : ClsOK ci Cn T N ty) (hk : Kd k = ci) (hn : k < n) (hj : j < N) (hf : fkd ci j = 2) (hfin : (T j).2.2.2 = true ∧ y.name = "<init>" ∧ Cn = y.cls) (h0 : r ≠ 0) (hty : ty j = .object cn ∨ ∃ ft, ty j = .array ft) (q : Cond.fieldLink y.cls idx Cn (T j).2.1 (T j).2.2.1 ∈ TB) (d : decode cc pc = .ok (.putfield idx, 3))
    (g : GG E K bf n (up2n R k j r) S O cs sl L (pc + 3) st t) : GG E K bf n R S O cs sl L pc (.ref (zad E r) :: .ref (zad E k) :: st) t := fun e H locs ls hR hS hl => by
  obtain ⟨M, hraw, hag⟩ := hR
  refine rawput (R' := up2n R k j r) (M' := M) C hC hk hn hj q d (Or.inr hfin) (by rcases hty with h | ⟨ft, h⟩ <;> rw [h] <;> rfl) (by rcases hty with h | ⟨ft, h⟩ <;> rw [h] <;> rfl) hraw.2.1 hS (fun k' h => zcell_upn h) (zfld_upn (by rw [zfld, hk, hf]; simp [up2n, zrv, h0])) fun H1 locs1 hz hcs hS1 => ?_
  refine g e H1 locs1 ls ⟨M, ⟨hz.trans hraw.1, hcs, hraw.2.2.1, fun a ha b => ⟨(hraw.2.2.2 a ha b).1, ?_⟩⟩, hag⟩ hS1 hl
  have e2 : ¬ (a = k ∧ b = j) := fun q => by omega
  simpa [up2n, e2] using (hraw.2.2.2 a ha b).2
-- arrays of the reference
theorem r_iald {z : Int} {F : Int → Option γ} (C : Cx E K y cc nL rm ret) (hk : Kd k = 100) (hn : k < n) (hc : nC ≤ k) (hz : IR z) (d : decode cc pc = .ok (.iaload, 1))
    (g : ∀ v, IR v → GG E K (some bf) n R S O cs sl L (pc + 1) (.int (zi v) :: st) (F v)) : GG E K (some bf) n R S O cs sl L pc (.int (zi z) :: .ref (zad E k) :: st) (Option.bind (aget (O k) (Ln k) z) F) := fun e H locs ls hR hS hl => by
  obtain ⟨M, hraw, hag⟩ := hR
  have hv := valO hag (ne_100 hk (by decide)) (ne_100 hk (by decide)) hc
  unfold aget at e
  by_cases h : 0 ≤ z ∧ z < Ln k
  · rw [if_pos h] at e
    refine rawiald C (Or.inl hk) hn hz h.1 h.2 d hraw.2.1 ?_
    rw [hv]
    exact g _ (hv z.toNat ▸ rgI hraw (t := 0) (by unfold zty; rw [hk]; rfl) (by decide) (by decide)) e H locs ls ⟨M, hraw, hag⟩ hS hl
  · rw [if_neg h] at e
    cases e
theorem r_zald {z : Int} {F : Int → Option γ} (C : Cx E K y cc nL rm ret) (hk : Kd k = 103) (hn : k < n) (hc : nC ≤ k) (hz : IR z) (d : decode cc pc = .ok (.baload, 1))
    (g : ∀ v, BR v → GG E K (some bf) n R S O cs sl L (pc + 1) (.int (zi v) :: st) (F v)) : GG E K (some bf) n R S O cs sl L pc (.int (zi z) :: .ref (zad E k) :: st) (Option.bind (aget (O k) (Ln k) z) F) := fun e H locs ls hR hS hl => by
  obtain ⟨M, hraw, hag⟩ := hR
  have hv := valO hag (ne_100 hk (by decide)) (ne_100 hk (by decide)) hc
  unfold aget at e
  by_cases h : 0 ≤ z ∧ z < Ln k
  · rw [if_pos h] at e
    refine rawzald C hk hn hz h.1 h.2 d hraw.2.1 ?_
    rw [hv]
    exact g _ (hv z.toNat ▸ rgB hraw (by unfold zty; rw [hk]; rfl)) e H locs ls ⟨M, hraw, hag⟩ hS hl
  · rw [if_neg h] at e
    cases e
theorem r_lald {z : Int} {F : Int → Option γ} (C : Cx E K y cc nL rm ret) (hk : Kd k = 102) (hn : k < n) (hc : nC ≤ k) (hz : IR z) (d : decode cc pc = .ok (.laload, 1))
    (g : ∀ v, LR v → GG E K (some bf) n R S O cs sl L (pc + 1) (.long (zl v) :: st) (F v)) : GG E K (some bf) n R S O cs sl L pc (.int (zi z) :: .ref (zad E k) :: st) (Option.bind (aget (O k) (Ln k) z) F) := fun e H locs ls hR hS hl => by
  obtain ⟨M, hraw, hag⟩ := hR
  have hv := valO hag (ne_100 hk (by decide)) (ne_100 hk (by decide)) hc
  unfold aget at e
  by_cases h : 0 ≤ z ∧ z < Ln k
  · rw [if_pos h] at e
    refine rawlald C hk hn hz h.1 h.2 d hraw.2.1 ?_
    rw [hv]
    exact g _ (hv z.toNat ▸ rgL hraw (by unfold zty; rw [hk]; rfl)) e H locs ls ⟨M, hraw, hag⟩ hS hl
  · rw [if_neg h] at e
    cases e
theorem r_laldS {z : Int} {F : Int → Option γ} (C : Cx E K y cc nL rm ret) (hk : Kd k = 102) (hn : k < n) (hc : k < nC) (hz : IR z) (d : decode cc pc = .ok (.laload, 1))
    (g : ∀ v, LR v → GG E K (some bf) n R S O cs sl L (pc + 1) (.long (zl v) :: st) (F v)) : GG E K (some bf) n R S O cs sl L pc (.int (zi z) :: .ref (zad E k) :: st) (Option.bind (aget (S.2 k) (Ln k) z) F) := fun e H locs ls hR hS hl => by
  obtain ⟨M, hraw, hag⟩ := hR
  have hv := valS hag (ne_100 hk (by decide)) (ne_100 hk (by decide)) hc
  unfold aget at e
  by_cases h : 0 ≤ z ∧ z < Ln k
  · rw [if_pos h] at e
    refine rawlald C hk hn hz h.1 h.2 d hraw.2.1 ?_
    rw [hv]
    exact g _ (hv z.toNat ▸ rgL hraw (by unfold zty; rw [hk]; rfl)) e H locs ls ⟨M, hraw, hag⟩ hS hl
  · rw [if_neg h] at e
    cases e
theorem r_iast {z v : Int} {F : Smo → Option γ} (C : Cx E K y cc nL rm ret) (hk : Kd k = 100) (hn : k < n) (hc : nC ≤ k) (hz : IR z) (hv : IR v) (d : decode cc pc = .ok (.iastore, 1))
    (g : ∀ O', GG E K (some bf) n R S O' cs sl L (pc + 1) st (F O')) : GG E K (some bf) n R S O cs sl L pc (.int (zi v) :: .int (zi z) :: .ref (zad E k) :: st) (Option.bind (asetO O k (Ln k) z v) F) := fun e H locs ls hR hS hl => by
  obtain ⟨M, hraw, hag⟩ := hR
  unfold asetO at e
  by_cases h : 0 ≤ z ∧ z < Ln k
  · rw [if_pos h] at e
    refine rawiast C (Or.inl hk) hn hz h.1 h.2 d hraw.2.1 hS fun H1 locs1 hz1 hcs hS1 => ?_
    exact g _ e H1 locs1 ls ⟨_, upraw hraw hn hz1 hcs (by unfold zty; rw [hk]; exact hv), upagrO hag (ne_100 hk (by decide)) (ne_100 hk (by decide)) hc⟩ hS1 hl
  · rw [if_neg h] at e
    cases e
theorem r_zast {z v : Int} {F : Smo → Option γ} (C : Cx E K y cc nL rm ret) (hk : Kd k = 103) (hn : k < n) (hc : nC ≤ k) (hz : IR z) (hv : BR v) (d : decode cc pc = .ok (.bastore, 1))
    (g : ∀ O', GG E K (some bf) n R S O' cs sl L (pc + 1) st (F O')) : GG E K (some bf) n R S O cs sl L pc (.int (zi v) :: .int (zi z) :: .ref (zad E k) :: st) (Option.bind (asetO O k (Ln k) z v) F) := fun e H locs ls hR hS hl => by
  obtain ⟨M, hraw, hag⟩ := hR
  unfold asetO at e
  by_cases h : 0 ≤ z ∧ z < Ln k
  · rw [if_pos h] at e
    refine rawzast C hk hn hz h.1 h.2 hv d hraw.2.1 hS fun H1 locs1 hz1 hcs hS1 => ?_
    exact g _ e H1 locs1 ls ⟨_, upraw hraw hn hz1 hcs (by unfold zty; rw [hk]; exact hv), upagrO hag (ne_100 hk (by decide)) (ne_100 hk (by decide)) hc⟩ hS1 hl
  · rw [if_neg h] at e
    cases e
theorem r_last {z v : Int} {F : Smo → Option γ} (C : Cx E K y cc nL rm ret) (hk : Kd k = 102) (hn : k < n) (hc : nC ≤ k) (hz : IR z) (hv : LR v) (d : decode cc pc = .ok (.lastore, 1))
    (g : ∀ O', GG E K (some bf) n R S O' cs sl L (pc + 1) st (F O')) : GG E K (some bf) n R S O cs sl L pc (.long (zl v) :: .int (zi z) :: .ref (zad E k) :: st) (Option.bind (asetO O k (Ln k) z v) F) := fun e H locs ls hR hS hl => by
  obtain ⟨M, hraw, hag⟩ := hR
  unfold asetO at e
  by_cases h : 0 ≤ z ∧ z < Ln k
  · rw [if_pos h] at e
    refine rawlast C hk hn hz h.1 h.2 d hraw.2.1 hS fun H1 locs1 hz1 hcs hS1 => ?_
    exact g _ e H1 locs1 ls ⟨_, upraw hraw hn hz1 hcs (by unfold zty; rw [hk]; exact hv), upagrO hag (ne_100 hk (by decide)) (ne_100 hk (by decide)) hc⟩ hS1 hl
  · rw [if_neg h] at e
    cases e
theorem r_lastS {z v : Int} {F : Sst → Option γ} (C : Cx E K y cc nL rm ret) (hk : Kd k = 102) (hn : k < n) (hc : k < nC) (hz : IR z) (hv : LR v) (d : decode cc pc = .ok (.lastore, 1))
    (g : ∀ S', GG E K (some bf) n R S' O cs sl L (pc + 1) st (F S')) : GG E K (some bf) n R S O cs sl L pc (.long (zl v) :: .int (zi z) :: .ref (zad E k) :: st) (Option.bind (asetS S k (Ln k) z v) F) := fun e H locs ls hR hS hl => by
  obtain ⟨M, hraw, hag⟩ := hR
  unfold asetS at e
  by_cases h : 0 ≤ z ∧ z < Ln k
  · rw [if_pos h] at e
    refine rawlast C hk hn hz h.1 h.2 d hraw.2.1 hS fun H1 locs1 hz1 hcs hS1 => ?_
    exact g _ e H1 locs1 ls ⟨_, upraw hraw hn hz1 hcs (by unfold zty; rw [hk]; exact hv), upagrS hag (ne_100 hk (by decide)) (ne_100 hk (by decide)) hc⟩ hS1 hl
  · rw [if_neg h] at e
    cases e
theorem r_alen (C : Cx E K y cc nL rm ret) (hk : Kd k = 100 ∨ Kd k = 101 ∨ Kd k = 102 ∨ Kd k = 103) (hn : k < n) (d : decode cc pc = .ok (.arraylength, 1)) (g : GG E K bf n R S O cs sl L (pc + 1) (.int (zi (Ln k)) :: st) t) : GG E K bf n R S O cs sl L pc (.ref (zad E k) :: st) t := fun e H locs ls hR hS hl => by
  obtain ⟨M, hraw, hag⟩ := hR
  exact rawalen C hk hn d hraw.2.1 (g e H locs ls ⟨M, hraw, hag⟩ hS hl)
end ROWS2
