/-! BASE 4: fields and arrays of the class (S) and of the reference (O) -/
theorem Kd6 {k : Nat} (h : Kd k = 6) : Kd (k + 1) = 101 := by
  have key : ∀ k, k < 307 → Kd k = 6 → Kd (k + 1) = 101 := by decide +kernel
  by_cases hk : k < 307
  · exact key k hk h
  · have hl : Kdl.length = 307 := by decide +kernel
    have e : Kdl[k]? = none := List.getElem?_eq_none (by omega)
    have e2 : Kd k = 11 := by unfold Kd; rw [List.getD_eq_getElem?_getD, e]; rfl
    rw [e2] at h
    cases h
theorem zty_obj {k ci j : Nat} (hk : Kd k = ci) (h : ci < 100) : zty k j = fkd ci j := by unfold zty; rw [hk, if_pos h]
theorem upraw {E : EwT} {n k j : Nat} {R : Srf} {M : Smo} {H H1 : Heap} {v : Int} (h : zRaw E n R M H) (hn : k < n) (hz : H1.size = H.size) (hc : zcs E n R (up2 M k j v) H1) (hr : zrg (zty k j) v) : zRaw E n R (up2 M k j v) H1 := by
  refine ⟨hz.trans h.1, hc, fun a b => ?_, fun a ha b => ?_⟩
  · by_cases e : a = k ∧ b = j
    · obtain ⟨rfl, rfl⟩ := e
      simpa [up2] using hr
    · simpa [up2, e] using h.2.2.1 a b
  · have e : ¬ (a = k ∧ b = j) := fun q => by omega
    simpa [up2, e] using h.2.2.2 a ha b
theorem upagrS {M : Smo} {S : Sst} {O : Smo} {k j : Nat} {v : Int} (h : zagr M S O) (h6 : Kd k ≠ 6) (h1 : Kd k ≠ 101) (hc : k < nC) : zagr (up2 M k j v) (upS S k j v) O := by
  intro a
  obtain ⟨g1, g2⟩ := h a
  refine ⟨fun q => ?_, fun q1 q2 b => ?_⟩
  · obtain ⟨e1, e2, e3⟩ := g1 q
    have n1 : a ≠ k := fun e => h6 (e ▸ q)
    have n2 : a + 1 ≠ k := fun e => h1 (e ▸ Kd6 q)
    refine ⟨by simpa [up2, n1, upS] using e1, by simpa [upS] using e2, fun i hi => by simpa [up2, n2, upS] using e3 i hi⟩
  · have e := g2 q1 q2 b
    by_cases n1 : a = k
    · subst n1
      rw [if_pos hc] at e ⊢
      simp only [up2, upS, true_and]
      split
      · rfl
      · exact e
    · simp only [up2, upS, n1, false_and, if_false]
      exact e
theorem upagrO {M : Smo} {S : Sst} {O : Smo} {k j : Nat} {v : Int} (h : zagr M S O) (h6 : Kd k ≠ 6) (h1 : Kd k ≠ 101) (hc : nC ≤ k) : zagr (up2 M k j v) S (up2 O k j v) := by
  intro a
  obtain ⟨g1, g2⟩ := h a
  refine ⟨fun q => ?_, fun q1 q2 b => ?_⟩
  · obtain ⟨e1, e2, e3⟩ := g1 q
    have n1 : a ≠ k := fun e => h6 (e ▸ q)
    have n2 : a + 1 ≠ k := fun e => h1 (e ▸ Kd6 q)
    refine ⟨by simpa [up2, n1] using e1, e2, fun i hi => by simpa [up2, n2] using e3 i hi⟩
  · have e := g2 q1 q2 b
    by_cases n1 : a = k
    · subst n1
      rw [if_neg (Nat.not_lt.mpr hc)] at e ⊢
      simp only [up2, true_and]
      split
      · rfl
      · exact e
    · simp only [up2, n1, false_and, if_false]
      exact e
theorem valS {M : Smo} {S : Sst} {O : Smo} {k : Nat} (h : zagr M S O) (h6 : Kd k ≠ 6) (h1 : Kd k ≠ 101) (hc : k < nC) (j : Nat) : M k j = S.2 k j := by
  rw [(h k).2 h6 h1 j, if_pos hc]
theorem valO {M : Smo} {S : Sst} {O : Smo} {k : Nat} (h : zagr M S O) (h6 : Kd k ≠ 6) (h1 : Kd k ≠ 101) (hc : nC ≤ k) (j : Nat) : M k j = O k j := by
  rw [(h k).2 h6 h1 j, if_neg (Nat.not_lt.mpr hc)]
section RAWA
variable {E : EwT} {K : KxT} {n : Nat} {R : Srf} {M : Smo} {cs sl : Nat} {pc : Nat} {st : List Value} {ls : Array Slot} {H : Heap} {locs : List Loc} {Q : State → Prop}
variable {y : MethodName} {cc : ByteArray} {nL : Nat} {rm : Room} {ret : Option FieldType} {k : Nat} {z v : Int}
theorem zcell_i {R : Srf} {M : Smo} (h : Kd k = 100 ∨ Kd k = 101) : zcell E R M k = .inl (E.2.1.1, Ln k, .inl (fun j => zi (M k j))) := by
  unfold zcell
  rcases h with h | h <;> simp [h]
theorem zcell_z {R : Srf} {M : Smo} (h : Kd k = 103) : zcell E R M k = .inl (E.2.1.2.2.1, Ln k, .inl (fun j => zi (M k j))) := by
  unfold zcell
  simp [h]
theorem zcell_l {R : Srf} {M : Smo} (h : Kd k = 102) : zcell E R M k = .inl (E.2.1.2.1, Ln k, .inr (.inl (fun j => zl (M k j)))) := by
  unfold zcell
  simp [h]
theorem rawiald (C : Cx E K y cc nL rm ret) (hk : Kd k = 100 ∨ Kd k = 101) (hn : k < n) (hz : IR z) (h0 : 0 ≤ z) (h1 : z < Ln k) (d : decode cc pc = .ok (.iaload, 1)) (hcs : zcs E n R M H)
    (kk : W K.1 K.l K.2.2.1 K.room K.s K.m K.args K.below K.meth K.c H locs cs sl Q (F0 K.m (pc + 1) ls (.int (zi (M k z.toNat)) :: st))) : W K.1 K.l K.2.2.1 K.room K.s K.m K.args K.below K.meth K.c H locs cs sl Q (F0 K.m pc ls (.int (zi z) :: .ref (zad E k) :: st)) := by
  refine va_iald (D := E.1) C.1 C.2.1 C.2.2.2.2.2.1.1 (zP1 hcs hn (zcell_i hk)) 0 0 rfl rfl (zi_in hz h0 h1) d ?_
  rw [zi_cl hz]
  exact kk
theorem rawzald (C : Cx E K y cc nL rm ret) (hk : Kd k = 103) (hn : k < n) (hz : IR z) (h0 : 0 ≤ z) (h1 : z < Ln k) (d : decode cc pc = .ok (.baload, 1)) (hcs : zcs E n R M H)
    (kk : W K.1 K.l K.2.2.1 K.room K.s K.m K.args K.below K.meth K.c H locs cs sl Q (F0 K.m (pc + 1) ls (.int (zi (M k z.toNat)) :: st))) : W K.1 K.l K.2.2.1 K.room K.s K.m K.args K.below K.meth K.c H locs cs sl Q (F0 K.m pc ls (.int (zi z) :: .ref (zad E k) :: st)) := by
  refine va_zald (D := E.1) C.1 C.2.1 C.2.2.2.2.2.1.1 (zP1 hcs hn (zcell_z hk)) 0 2 rfl rfl (zi_in hz h0 h1) d ?_
  rw [zi_cl hz]
  exact kk
theorem rawlald (C : Cx E K y cc nL rm ret) (hk : Kd k = 102) (hn : k < n) (hz : IR z) (h0 : 0 ≤ z) (h1 : z < Ln k) (d : decode cc pc = .ok (.laload, 1)) (hcs : zcs E n R M H)
    (kk : W K.1 K.l K.2.2.1 K.room K.s K.m K.args K.below K.meth K.c H locs cs sl Q (F0 K.m (pc + 1) ls (.long (zl (M k z.toNat)) :: st))) : W K.1 K.l K.2.2.1 K.room K.s K.m K.args K.below K.meth K.c H locs cs sl Q (F0 K.m pc ls (.int (zi z) :: .ref (zad E k) :: st)) := by
  refine va_lald (D := E.1) C.1 C.2.1 C.2.2.2.2.2.1.1 (zP1 hcs hn (zcell_l hk)) 0 1 rfl rfl (zi_in hz h0 h1) d ?_
  rw [zi_cl hz]
  exact kk
theorem rawalen (C : Cx E K y cc nL rm ret) (hk : Kd k = 100 ∨ Kd k = 101 ∨ Kd k = 102 ∨ Kd k = 103) (hn : k < n) (d : decode cc pc = .ok (.arraylength, 1)) (hcs : zcs E n R M H)
    (kk : W K.1 K.l K.2.2.1 K.room K.s K.m K.args K.below K.meth K.c H locs cs sl Q (F0 K.m (pc + 1) ls (.int (zi (Ln k)) :: st))) : W K.1 K.l K.2.2.1 K.room K.s K.m K.args K.below K.meth K.c H locs cs sl Q (F0 K.m pc ls (.ref (zad E k) :: st)) := by
  have hv : Int32.ofNat (Ln k) = zi (Ln k) := (Int32.ofInt_eq_ofNat).symm
  rcases hk with h | h | h | h
  · exact va_alen (D := E.1) C.1 C.2.1 C.2.2.2.2.2.1.1 (zP1 hcs hn (zcell_i (Or.inl h))) 0 0 rfl rfl hv d kk
  · exact va_alen (D := E.1) C.1 C.2.1 C.2.2.2.2.2.1.1 (zP1 hcs hn (zcell_i (Or.inr h))) 0 0 rfl rfl hv d kk
  · exact va_alen (D := E.1) C.1 C.2.1 C.2.2.2.2.2.1.1 (zP1 hcs hn (zcell_l h)) 0 1 rfl rfl hv d kk
  · exact va_alen (D := E.1) C.1 C.2.1 C.2.2.2.2.2.1.1 (zP1 hcs hn (zcell_z h)) 0 2 rfl rfl hv d kk
theorem arr_at {cA : ClassId} {H H1 : Heap} {e e' : vp_A} {f f' : Nat → Value} {j : Nat} {x : Value} (hn : k < n) (hcs : zcs E n R M H) {M' : Smo} (he : zcell E R M k = .inl (cA, e)) (he' : zcell E R M' k = .inl (cA, e')) (hc : vp_cell cA e = arrV cA (Ln k) f) (hc' : vp_cell cA e' = arrV cA (Ln k) f')
    (hf : updV f j x = f') (ho : ∀ k', k' ≠ k → zcell E R M' k' = zcell E R M k') (e1 : H1[zad E k]? = some ((vp_cell cA e).setSlot j x)) (e3 : ∀ q, q ≠ zad E k → H1[q]? = H[q]?) : zcs E n R M' H1 := by
  intro k' hk'
  by_cases h : k' = k
  · subst h
    rw [he']
    show H1[zad E k']? = some (vp_cell cA e')
    rw [e1, hc, hc', arrV_store, hf]
  · rw [ho k' h]
    exact (hcs k' hk').kept (e3 _ (by show zB E + k' ≠ zB E + k; omega))
theorem rawiast (C : Cx E K y cc nL rm ret) (hk : Kd k = 100 ∨ Kd k = 101) (hn : k < n) (hz : IR z) (h0 : 0 ≤ z) (h1 : z < Ln k) (d : decode cc pc = .ok (.iastore, 1)) (hcs : zcs E n R M H) (hS : va_S (zA E) K.s.heap H locs)
    (kk : ∀ (H1 : Heap) (locs1 : List Loc), H1.size = H.size → zcs E n R (up2 M k z.toNat v) H1 → va_S (zA E) K.s.heap H1 locs1 → W K.1 K.l K.2.2.1 K.room K.s K.m K.args K.below K.meth K.c H1 locs1 cs sl Q (F0 K.m (pc + 1) ls st)) : W K.1 K.l K.2.2.1 K.room K.s K.m K.args K.below K.meth K.c H locs cs sl Q (F0 K.m pc ls (.int (zi v) :: .int (zi z) :: .ref (zad E k) :: st)) := by
  have hcell := zP1 hcs hn (zcell_i hk) 0 _ rfl
  refine W.iast C.1 C.2.1 hcell ((C.2.2.2.2.2.1.1.2 0 _ rfl).1 (Ln k) (fun j => .int (zi (M k j)))) (fun q => by cases q) (by show ¬ (zi z < 0 ∨ (arrV _ _ _).slots.size ≤ _); rw [arrV_size]; exact zi_in hz h0 h1) rfl rfl d fun H1 e1 e2 e3 => ?_
  rw [zi_cl hz] at e1 ⊢
  refine kk H1 _ e2 (arr_at hn hcs (zcell_i hk) (zcell_i hk) (vp_cell_i _ _ _) (vp_cell_i _ _ _) ?_ (fun k' h => zcell_up h) e1 e3) (hS.put e2 e3 (show zB E ≤ zB E + k by omega))
  funext i
  by_cases hi : i = z.toNat
  · subst hi
    simp [updV, up2]
  · simp [updV, up2, hi]
theorem rawzast (C : Cx E K y cc nL rm ret) (hk : Kd k = 103) (hn : k < n) (hz : IR z) (h0 : 0 ≤ z) (h1 : z < Ln k) (hv : BR v) (d : decode cc pc = .ok (.bastore, 1)) (hcs : zcs E n R M H) (hS : va_S (zA E) K.s.heap H locs)
    (kk : ∀ (H1 : Heap) (locs1 : List Loc), H1.size = H.size → zcs E n R (up2 M k z.toNat v) H1 → va_S (zA E) K.s.heap H1 locs1 → W K.1 K.l K.2.2.1 K.room K.s K.m K.args K.below K.meth K.c H1 locs1 cs sl Q (F0 K.m (pc + 1) ls st)) : W K.1 K.l K.2.2.1 K.room K.s K.m K.args K.below K.meth K.c H locs cs sl Q (F0 K.m pc ls (.int (zi v) :: .int (zi z) :: .ref (zad E k) :: st)) := by
  have hcell := zP1 hcs hn (zcell_z hk) 0 _ rfl
  refine W.zast C.1 C.2.1 hcell ((C.2.2.2.2.2.1.1.2 2 _ rfl).1 (Ln k) (fun j => .int (zi (M k j)))) (fun q => by cases q) (by show ¬ (zi z < 0 ∨ (arrV _ _ _).slots.size ≤ _); rw [arrV_size]; exact zi_in hz h0 h1) rfl rfl d fun H1 e1 e2 e3 => ?_
  rw [zi_cl hz] at e1 ⊢
  refine kk H1 _ e2 (arr_at hn hcs (zcell_z hk) (zcell_z hk) (vp_cell_i _ _ _) (vp_cell_i _ _ _) ?_ (fun k' h => zcell_up h) e1 e3) (hS.put e2 e3 (show zB E ≤ zB E + k by omega))
  have hb : narrow .boolean (.int (zi v)) = .int (zi v) := by
    have : v = 0 ∨ v = 1 := by have := hv.1; have := hv.2; omega
    rcases this with rfl | rfl <;> rfl
  funext i
  by_cases hi : i = z.toNat
  · subst hi
    simp [updV, up2, hb]
  · simp [updV, up2, hi]
theorem rawlast (C : Cx E K y cc nL rm ret) (hk : Kd k = 102) (hn : k < n) (hz : IR z) (h0 : 0 ≤ z) (h1 : z < Ln k) (d : decode cc pc = .ok (.lastore, 1)) (hcs : zcs E n R M H) (hS : va_S (zA E) K.s.heap H locs)
    (kk : ∀ (H1 : Heap) (locs1 : List Loc), H1.size = H.size → zcs E n R (up2 M k z.toNat v) H1 → va_S (zA E) K.s.heap H1 locs1 → W K.1 K.l K.2.2.1 K.room K.s K.m K.args K.below K.meth K.c H1 locs1 cs sl Q (F0 K.m (pc + 1) ls st)) : W K.1 K.l K.2.2.1 K.room K.s K.m K.args K.below K.meth K.c H locs cs sl Q (F0 K.m pc ls (.long (zl v) :: .int (zi z) :: .ref (zad E k) :: st)) := by
  have hcell := zP1 hcs hn (zcell_l hk) 0 _ rfl
  refine W.last C.1 C.2.1 hcell ((C.2.2.2.2.2.1.1.2 1 _ rfl).1 (Ln k) (fun j => .long (zl (M k j)))) (fun q => by cases q) (by show ¬ (zi z < 0 ∨ (arrV _ _ _).slots.size ≤ _); rw [arrV_size]; exact zi_in hz h0 h1) rfl rfl d fun H1 e1 e2 e3 => ?_
  rw [zi_cl hz] at e1 ⊢
  refine kk H1 _ e2 (arr_at hn hcs (zcell_l hk) (zcell_l hk) (vp_cell_l _ _ _) (vp_cell_l _ _ _) ?_ (fun k' h => zcell_up h) e1 e3) (hS.put e2 e3 (show zB E ≤ zB E + k by omega))
  funext i
  by_cases hi : i = z.toNat
  · subst hi
    simp [updV, up2]
  · simp [updV, up2, hi]
end RAWA
