/-! BASE 3: fields and arrays -/
def ClsOK (ci : Nat) (Cn : String) (T : u_T) (N : Nat) (ty : Nat → FieldType) : Prop :=
  vwCl[ci]? = some (Cn, T, N) ∧ (∀ w ∈ u_ws Cn T N, w ∈ TB) ∧ nfd ci = N ∧ ci < 100 ∧ (∀ k, k < N → parseFieldDescriptor (T k).2.2.1 = some (ty k)) ∧
  (∀ a, a < N → ∀ b, b < N → a ≠ b → (T a).2.1 ≠ (T b).2.1) ∧ (∀ j, j < N → (T j).1 = Cn) ∧
  ∀ j, j < N → defaultValue (ty j) = if fkd ci j = 1 then .long 0 else if fkd ci j = 2 then .null else .int 0
theorem zcell_obj {E : EwT} {R : Srf} {M : Smo} {k ci : Nat} (hk : Kd k = ci) (h : ci < 100) : zcell E R M k = .inr (ci, (List.range (nfd ci)).map (zfld E R M k)) := by
  unfold zcell
  rw [hk, if_pos h]
theorem zfl_get {E : EwT} {R : Srf} {M : Smo} {k N j : Nat} (hj : j < N) : ((List.range N).map (zfld E R M k))[j]? = some (zfld E R M k j) := by
  simp [List.getElem?_map, List.getElem?_range hj]
theorem zfl_set {E : EwT} {R R' : Srf} {M M' : Smo} {k N j : Nat} {v : Value} (h : ∀ i, zfld E R' M' k i = if i = j then v else zfld E R M k i) : ((List.range N).map (zfld E R M k)).set j v = (List.range N).map (zfld E R' M' k) := by
  apply List.ext_getElem?
  intro i
  by_cases hi : i < N
  · rw [zfl_get hi, h i]
    by_cases hij : i = j
    · subst hij
      rw [if_pos rfl, List.getElem?_set_self (by simpa using hi)]
    · rw [if_neg hij, List.getElem?_set_ne (Ne.symm hij), zfl_get hi]
  · rw [List.getElem?_eq_none (by simpa using hi), List.getElem?_eq_none (by simpa using hi)]
theorem zcell_up {E : EwT} {R : Srf} {M : Smo} {k j k' : Nat} {v : Int} (h : k' ≠ k) : zcell E R (up2 M k j v) k' = zcell E R M k' := by
  have e : ∀ i, up2 M k j v k' i = M k' i := fun i => by simp [up2, h]
  have e2 : zfld E R (up2 M k j v) k' = zfld E R M k' := by
    funext i
    simp [zfld, e]
  unfold zcell
  rw [e2]
  simp only [e]
theorem zcell_upn {E : EwT} {R : Srf} {M : Smo} {k j k' v : Nat} (h : k' ≠ k) : zcell E (up2n R k j v) M k' = zcell E R M k' := by
  have e2 : zfld E (up2n R k j v) M k' = zfld E R M k' := by
    funext i
    simp [zfld, up2n, h]
  unfold zcell
  rw [e2]
theorem zfld_up {E : EwT} {R : Srf} {M : Smo} {k j : Nat} {z : Int} {v : Value} (hv : zfld E R (up2 M k j z) k j = v) (i : Nat) : zfld E R (up2 M k j z) k i = if i = j then v else zfld E R M k i := by
  by_cases h : i = j
  · subst h
    rw [if_pos rfl, hv]
  · rw [if_neg h]
    simp [zfld, up2, h]
theorem zfld_upn {E : EwT} {R : Srf} {M : Smo} {k j z : Nat} {v : Value} (hv : zfld E (up2n R k j z) M k j = v) (i : Nat) : zfld E (up2n R k j z) M k i = if i = j then v else zfld E R M k i := by
  by_cases h : i = j
  · subst h
    rw [if_pos rfl, hv]
  · rw [if_neg h]
    simp [zfld, up2n, h]
def zcs (E : EwT) (n : Nat) (R : Srf) (M : Smo) (H : Heap) : Prop := ∀ k, k < n → va_at E.1 vwCl (zB E + k, zcell E R M k) H
theorem zP1 {E : EwT} {n k : Nat} {R : Srf} {M : Smo} {H : Heap} {e : va_E} (h : zcs E n R M H) (hk : k < n) (he : zcell E R M k = e) : va_P E.1 vwCl [(zad E k, e)] H := by
  intro i q hi
  have hz : i < 1 := (List.getElem?_eq_some_iff.mp hi).1
  rw [show i = 0 by omega] at hi
  cases hi
  rw [← he]
  exact h k hk
section RAW
variable {E : EwT} {K : KxT} {n : Nat} {R R' : Srf} {M M' : Smo} {cs sl : Nat} {pc : Nat} {st : List Value} {ls : Array Slot} {H : Heap} {locs : List Loc} {Q : State → Prop}
variable {y : MethodName} {cc : ByteArray} {nL : Nat} {rm : Room} {ret : Option FieldType} {ci : Nat} {Cn : String} {T : u_T} {N : Nat} {ty : Nat → FieldType} {k j idx : Nat} {v : Value}
theorem rawget (C : Cx E K y cc nL rm ret) (hC : ClsOK ci Cn T N ty) (hk : Kd k = ci) (hn : k < n) (hj : j < N) (q : Cond.fieldLink y.cls idx Cn (T j).2.1 (T j).2.2.1 ∈ TB) (d : decode cc pc = .ok (.getfield idx, 3)) (hcs : zcs E n R M H)
    (kk : W K.1 K.l K.2.2.1 K.room K.s K.m K.args K.below K.meth K.c H locs cs sl Q (F0 K.m (pc + 3) ls (zfld E R M k j :: st))) : W K.1 K.l K.2.2.1 K.room K.s K.m K.args K.below K.meth K.c H locs cs sl Q (F0 K.m pc ls (.ref (zad E k) :: st)) := by
  obtain ⟨h1, h2, h3, h4, h5, h6, h7, h8⟩ := hC
  exact va_get (D := E.1) C.1 C.2.1 C.2.2.2.2.1 h2 C.2.2.2.1 C.2.2.2.2.2.1.1 (zP1 hcs hn (zcell_obj hk h4)) 0 rfl h1 j hj (C.2.2.2.2.1 _ q) (fun x hx => by rw [← h7 j hj]; exact hx) (by rw [h3]; exact zfl_get hj) d kk
theorem rawput (C : Cx E K y cc nL rm ret) (hC : ClsOK ci Cn T N ty) (hk : Kd k = ci) (hn : k < n) (hj : j < N) (q : Cond.fieldLink y.cls idx Cn (T j).2.1 (T j).2.2.1 ∈ TB) (d : decode cc pc = .ok (.putfield idx, 3))
    (hf : (T j).2.2.2 = false ∨ ((T j).2.2.2 = true ∧ y.name = "<init>" ∧ Cn = y.cls)) (hnar : narrow (ty j) v = v) (hfit : fits (ty j) v = true) (hcs : zcs E n R M H) (hS : va_S (zA E) K.s.heap H locs)
    (h1 : ∀ k', k' ≠ k → zcell E R' M' k' = zcell E R M k') (h2 : ∀ i, zfld E R' M' k i = if i = j then v else zfld E R M k i)
    (kk : ∀ (H1 : Heap) (locs1 : List Loc), H1.size = H.size → zcs E n R' M' H1 → va_S (zA E) K.s.heap H1 locs1 → W K.1 K.l K.2.2.1 K.room K.s K.m K.args K.below K.meth K.c H1 locs1 cs sl Q (F0 K.m (pc + 3) ls st)) :
    W K.1 K.l K.2.2.1 K.room K.s K.m K.args K.below K.meth K.c H locs cs sl Q (F0 K.m pc ls (v :: .ref (zad E k) :: st)) := by
  obtain ⟨a1, a2, a3, a4, a5, a6, a7, a8⟩ := hC
  have hts := C.2.2.2.2.1
  have hown := C.2.2.2.1
  have hK := C.2.2.2.2.2.1.1
  have hap := va_apart (own := y.cls) hts a2 ty a5 a6 hK a1
  have hat := hcs k hn
  rw [zcell_obj hk a4, a3] at hat
  obtain ⟨r, g1, cell, q1, q2, q3, q4⟩ := hat
  have hr : r = (Cn, T, N) := Option.some.inj (g1.symm.trans a1)
  subst hr
  obtain ⟨hSl, hfc, kC, hkC, hkind⟩ := hK.1 ci _ a1
  obtain ⟨cf, kf, fi, f, hi, hsl⟩ := hSl j hj
  have hlay := hts _ (a2 _ (u_in_lay hj))
  have hst := (u_facts hfc hkC (u_lays hts a2 hj) hi).1
  have hsame : K.s.fieldFound? Cn (T j).2.1 (T j).2.2.1 = some (cf, kf, fi, f) := by rw [← a7 j hj]; exact hi
  have fin : ∀ H' : Heap, H'[zad E k]? = some (cell.setSlot (E.1.2 ci j) v) → H'.size = H.size → (∀ q, q ≠ zad E k → H'[q]? = H[q]?) → zcs E n R' M' H' ∧ va_S (zA E) K.s.heap H' (locs ++ [⟨zad E k, E.1.2 ci j⟩]) := by
    intro H' e1 e2 e3
    refine ⟨fun k' hk' => ?_, hS.put e2 e3 (show zB E ≤ zB E + k by omega)⟩
    by_cases h : k' = k
    · subst h
      rw [zcell_obj hk a4, a3, ← zfl_set h2]
      exact ⟨_, a1, t_OB.to (V := updV (vp_V ((List.range N).map (zfld E R M k'))) j v) ⟨_, e1, q2, q3, t_set q4 hap hj v⟩ (fun i _ => vp_updV_set (by simpa using hj) v i)⟩
    · rw [h1 k' h]
      exact (hcs k' hk').kept (e3 _ (by show zB E + k' ≠ zB E + k; omega))
  rcases hf with hf | ⟨hf, hf2, hf3⟩
  · unfold u_lay at hlay
    rw [if_neg (by rw [hf]; decide)] at hlay
    have h6 := u_store hfc hkC hkind hlay hi (a5 j hj) hnar hfit
    refine W.putK C.1 C.2.1 (f := f) ⟨hown, hts _ q, ⟨_, _, _, hsame⟩, hst⟩ (by rw [q2]; exact h6) q1 q3 (by rw [hsl]; exact k2_hasslot (q4 j hj)) rfl rfl d fun H' e1 e2 e3 => ?_
    rw [hsl] at e1 ⊢
    obtain ⟨b1, b2⟩ := fin H' e1 e2 e3
    exact kk H' _ e2 b1 b2
  · unfold u_lay at hlay
    rw [if_pos hf] at hlay
    have hcf : K.m.cls = cf := by
      obtain ⟨_, _, c', _, _, _, -, -, hf', -, -, -, hown2, -⟩ := Cond.laysFinal_spec hlay
      have e1 : c' = cf := by have := hi.symm.trans hf'; simp at this; exact this.1.symm
      rw [a7 j hj, hf3] at hown2
      rw [← e1]; exact Option.some.inj (hown.symm.trans hown2)
    have h6 := u_fits hfc hkC hkind (Or.inr hlay) hi (a5 j hj) hnar hfit
    refine W.putFinK C.1 C.2.1 hown (hts _ q) hsame hst hcf (C.2.2.2.2.2.2.2.2.2.2.trans hf2) (by rw [q2]; exact h6) q1 q3 (by rw [hsl]; exact k2_hasslot (q4 j hj)) rfl rfl d fun H' e1 e2 e3 => ?_
    rw [hsl] at e1 ⊢
    obtain ⟨b1, b2⟩ := fin H' e1 e2 e3
    exact kk H' _ e2 b1 b2
end RAW
