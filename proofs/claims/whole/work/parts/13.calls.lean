/-! BASE 6: calls, ends, new cells, joins and loops -/
section ROWS3
variable {γ α : Type} {E : EwT} {K : KxT} {bf : γ} {n n' : Nat} {R R' : Srf} {S S' : Sst} {O O' : Smo} {cs sl mc ms : Nat} {L : List (Nat × Value)} {pc : Nat} {st stk As : List Value} {t : γ}
variable {y u : MethodName} {cc bytes : ByteArray} {nL maxL nargs f lo f' lo' fc fs : Nat} {rm : Room} {ret rt : Option FieldType} {ci : Nat} {Cn : String} {T : u_T} {N : Nat} {ty : Nat → FieldType} {k j idx : Nat} {P : Prop} {rv : Option Value}
/-- what a method needs to be called: its words and its name -/
def CalV (u : MethodName) (bytes : ByteArray) (maxL : Nat) (rt : Option FieldType) (nargs : Nat) : Prop :=
  Cond.instanceMethod u ∈ TB ∧ Cond.selects u.cls u u ∈ TB ∧ Cond.initialized u.cls ∈ TB ∧ Cond.code u bytes maxL rt ∈ TB ∧
  (u.cls ≠ "java/lang/invoke/MethodHandle" ∧ u.cls ≠ "java/lang/invoke/VarHandle" ∧ (parseMethodDescriptor u.desc).map (fun d => d.parameters.length) = some nargs)
def CalS (u : MethodName) (bytes : ByteArray) (maxL : Nat) (rt : Option FieldType) (nargs : Nat) : Prop :=
  Cond.static u ∈ TB ∧ Cond.initialized u.cls ∈ TB ∧ Cond.code u bytes maxL rt ∈ TB ∧
  (u.cls ≠ "java/lang/invoke/MethodHandle" ∧ u.cls ≠ "java/lang/invoke/VarHandle" ∧ (parseMethodDescriptor u.desc).map (fun d => d.parameters.length) = some nargs)
def CalI (u : MethodName) (bytes : ByteArray) (maxL nargs : Nat) : Prop :=
  Cond.instanceMethod u ∈ TB ∧ Cond.initialized u.cls ∈ TB ∧ Cond.code u bytes maxL none ∈ TB ∧ u.name = "<init>" ∧
  (u.cls ≠ "java/lang/invoke/MethodHandle" ∧ u.cls ≠ "java/lang/invoke/VarHandle" ∧ (parseMethodDescriptor u.desc).map (fun d => d.parameters.length) = some nargs)
abbrev MetG (l : Launch) (E : EwT) (u : MethodName) (bytes : ByteArray) (maxL : Nat) (rt : Option FieldType) (f lo mc ms n : Nat) (R : Srf) (S : Sst) (O : Smo) (av : List Value) (P : Prop) (rv : Option Value) (n' : Nat) (R' : Srf) (S' : Sst) (O' : Smo) : Prop :=
  Met l u (Cond.code u bytes maxL rt :: TB) (rmk f lo mc ms) (zPc E n R S O av) (zQ E P rv n' R' S' O') mc ms (zA E)
theorem afterCall {Rn : Room} {s : State} {p : Program} {l : Launch} {e : Env} {m : MethodId} {args : Array Value} {below : List Frame} {meth : Method} {c : Code} {H : Heap} {locs : List Loc} {Q : State → Prop} {ls : Array Slot} {rest st0 : List Value} {a : Array Value}
    (hr : va_Run p l e Rn s m args below meth c H locs cs sl mc ms (F0 m pc ls st0) rest (zQ E P rv n' R' S' O' a) (zA E)) (hS : va_S (zA E) s.heap H locs)
    (kk : P → ∀ (H1 : Heap) (locs1 : List Loc), zRep E n' R' S' O' H1 → va_S (zA E) s.heap H1 locs1 → W p l e Rn s m args below meth c H1 locs1 (cs + mc) (sl + ms) Q (F0 m (pc + 3) ls (rv.toList ++ rest))) : W p l e Rn s m args below meth c H locs cs sl Q (F0 m pc ls st0) := by
  intro T hT X
  obtain ⟨v, st₀, t, T', Lc, h0, X', hL, e1, e2, ⟨⟨hv, hP, hRep⟩, hz, hk⟩, stp⟩ := hr T hT X
  cases hv
  rw [h0] at hz hk
  obtain ⟨t2, a1, b1⟩ := kk hP T'.heap (locs ++ Lc) (by rw [e1]; exact hRep)
    ⟨Nat.le_trans hS.1 (by rw [e1]; exact hz), fun q h1 h2 => by rw [e1, hk q (Nat.lt_of_lt_of_le h1 hS.1) h2]; exact hS.2.1 q h1 h2, fun q hq => by
      rcases List.mem_append.mp hq with h | h
      · exact hS.2.2 q h
      · exact hL q h⟩ T' rfl X'
  exact ⟨t2, stp t2 a1, b1⟩
theorem r_callV (C : Cx E K y cc nL (rmk f lo fc fs) ret) (M : MetG K.l E u bytes maxL rt f' lo' mc ms n R S O (.ref (zad E k) :: As) P rv n' R' S' O') (W0 : CalV u bytes maxL rt nargs) (hcl : ClsOK ci u.cls T N ty) (hk : Kd k = ci) (hn : k < n)
    (q : Cond.methodLink y.cls idx u ∈ TB) (d : decode cc pc = .ok (.invokevirtual idx, 3)) (hst : stk = As.reverse ++ .ref (zad E k) :: st) (ha : As.length = nargs) (hw : (st.map fun v => v.category).sum ≤ 8) (h1 : f' + 1 ≤ f) (h2 : 8 + (maxL + 11) + lo' ≤ lo) (h3 : cs + mc ≤ fc) (h4 : sl + ms ≤ fs)
    (g : P → GG E K bf n' R' S' O' (cs + mc) (sl + ms) L (pc + 3) (rv.toList ++ st) t) : GG E K bf n R S O cs sl L pc stk t := fun e H locs ls hR hS hl => by
  obtain ⟨w1, w2, w3, w4, w5⟩ := W0
  obtain ⟨x1, x2, x3, x4, x5, x6, x7, x8, x9, x10, x11⟩ := C
  have hrecv : ∃ cell : Cell, H[zad E k]? = some cell ∧ cell.vm.isStatics = false ∧ K.s.vm.findClass u.cls = some cell.cls := by
    obtain ⟨Mm, hraw, -⟩ := hR
    exact va_recv x6.1 (zP1 hraw.2.1 hn (zcell_obj hk hcl.2.2.2.1)) hcl.1 (q0 := 0) rfl
  subst hst
  refine afterCall (P := P) (rv := rv) (n' := n') (R' := R') (S' := S') (O' := O') (E := E) (va_runV (As := As) (rest := st) (nL := nL) (own := y.cls) (Ts := TB) ⟨x1, x2, x3, x4, x5⟩ M (cwV nargs x5 (TB_in5 q w1 w2 w3 w4) rfl rfl rfl ⟨rfl, w5⟩ ⟨by rw [x9]; exact h1, by rw [x9]; exact h2⟩)
    ⟨zPc.blind _ _ _ _ _ _, hrecv, fun U hU hW => ⟨rfl, by rw [hU]; exact hR, zV.call x6 hW (locs := locs) (by rw [hU]; exact hS)⟩⟩ rfl ha (by rw [← x3]; exact hl.1) rfl (lv_room hw) d ⟨by rw [x9]; exact h3, by rw [x9]; exact h4⟩) hS fun hP H1 locs1 hR1 hS1 => ?_
  exact g hP e H1 locs1 ls hR1 hS1 hl
theorem r_callS (C : Cx E K y cc nL (rmk f lo fc fs) ret) (M : MetG K.l E u bytes maxL rt f' lo' mc ms n R S O As P rv n' R' S' O') (W0 : CalS u bytes maxL rt nargs)
    (q : Cond.methodLink y.cls idx u ∈ TB) (d : decode cc pc = .ok (.invokestatic idx, 3)) (hst : stk = As.reverse ++ st) (ha : As.length = nargs) (hw : (st.map fun v => v.category).sum ≤ 8) (h1 : f' + 1 ≤ f) (h2 : 8 + (maxL + 11) + lo' ≤ lo) (h3 : cs + mc ≤ fc) (h4 : sl + ms ≤ fs)
    (g : P → GG E K bf n' R' S' O' (cs + mc) (sl + ms) L (pc + 3) (rv.toList ++ st) t) : GG E K bf n R S O cs sl L pc stk t := fun e H locs ls hR hS hl => by
  obtain ⟨w1, w3, w4, w5⟩ := W0
  obtain ⟨x1, x2, x3, x4, x5, x6, x7, x8, x9, x10, x11⟩ := C
  subst hst
  refine afterCall (P := P) (rv := rv) (n' := n') (R' := R') (S' := S') (O' := O') (E := E) (va_runS (As := As) (rest := st) (nL := nL) (own := y.cls) (Ts := TB) ⟨x1, x2, x3, x4, x5⟩ M ⟨callB_of nargs x5 (TB_in w4) rfl rfl rfl (x5 _ w3) (x5 _ q) w5 ⟨by rw [x9]; exact h1, by rw [x9]; exact h2⟩, x5 _ w1⟩
    ⟨zPc.blind _ _ _ _ _ _, fun U hU hW => ⟨rfl, by rw [hU]; exact hR, zV.call x6 hW (locs := locs) (by rw [hU]; exact hS)⟩⟩ rfl ha (by rw [← x3]; exact hl.1) rfl (lv_room hw) d ⟨by rw [x9]; exact h3, by rw [x9]; exact h4⟩) hS fun hP H1 locs1 hR1 hS1 => ?_
  exact g hP e H1 locs1 ls hR1 hS1 hl
theorem r_callI (C : Cx E K y cc nL (rmk f lo fc fs) ret) (M : MetG K.l E u bytes maxL none f' lo' mc ms n R S O (.ref (zad E k) :: As) P none n' R' S' O') (W0 : CalI u bytes maxL nargs)
    (q : Cond.methodLink y.cls idx u ∈ TB) (d : decode cc pc = .ok (.invokespecial idx, 3)) (hst : stk = As.reverse ++ .ref (zad E k) :: st) (ha : As.length = nargs) (hw : (st.map fun v => v.category).sum ≤ 8) (h1 : f' + 1 ≤ f) (h2 : 8 + (maxL + 11) + lo' ≤ lo) (h3 : cs + mc ≤ fc) (h4 : sl + ms ≤ fs)
    (g : P → GG E K bf n' R' S' O' (cs + mc) (sl + ms) L (pc + 3) st t) : GG E K bf n R S O cs sl L pc stk t := fun e H locs ls hR hS hl => by
  obtain ⟨w1, w3, w4, wn, w5⟩ := W0
  obtain ⟨x1, x2, x3, x4, x5, x6, x7, x8, x9, x10, x11⟩ := C
  subst hst
  refine afterCall (P := P) (rv := none) (n' := n') (R' := R') (S' := S') (O' := O') (E := E) (va_runI (b := zad E k) (As := As) (rest := st) (nL := nL) (own := y.cls) (Ts := TB) ⟨x1, x2, x3, x4, x5⟩ M (cwI nargs x5 (TB_in w4) rfl rfl rfl (x5 _ w3) (x5 _ q) (x5 _ w1) wn w5 ⟨by rw [x9]; exact h1, by rw [x9]; exact h2⟩)
    ⟨zPc.blind _ _ _ _ _ _, fun U hU hW => ⟨rfl, by rw [hU]; exact hR, zV.call x6 hW (locs := locs) (by rw [hU]; exact hS)⟩⟩ rfl ha (by rw [← x3]; exact hl.1) rfl (lv_room hw) d ⟨by rw [x9]; exact h3, by rw [x9]; exact h4⟩) hS fun hP H1 locs1 hR1 hS1 => ?_
  exact g hP e H1 locs1 ls hR1 hS1 hl
theorem r_obj (C : Cx E K y cc nL (rmk f lo fc fs) ret) {a : Nat} (q : Cond.methodLink y.cls idx objectInit ∈ TB) (q2 : Cond.instanceMethod objectInit ∈ TB) (q3 : Cond.code objectInit ⟨#[0xb1]⟩ 1 none ∈ TB) (d : decode cc pc = .ok (.invokespecial idx, 3)) (hw : (st.map fun v => v.category).sum ≤ 8) (h1 : 1 ≤ f) (h2 : 20 ≤ lo)
    (g : GG E K bf n R S O cs sl L (pc + 3) st t) : GG E K bf n R S O cs sl L pc (.ref a :: st) t := fun e H locs ls hR hS hl => by
  obtain ⟨x1, x2, x3, x4, x5, x6, x7, x8, x9, x10, x11⟩ := C
  refine W.objInit x1 x2 x4 (x5 _ q) (x5 _ q2) (x5 _ q3) rfl hl.1 rfl d (by rw [x9]; exact h1) ?_ (g e H locs ls hR hS hl)
  have := lv_room (m := K.m) (pc := pc) (ls := ls) (rest := .ref a :: st) hw
  rw [x9]
  show _ ≤ lo
  omega
-- new cells
theorem fresh_up {M : Smo} {H H1 : Heap} (h : zRaw E n R M H) (hz : H1.size = H.size + 1) (ho : ∀ q, q < H.size → H1[q]? = H[q]?) (hc : va_at E.1 vwCl (zB E + n, zcell E R M n) H1) : zRaw E (n + 1) R M H1 := by
  refine ⟨by rw [hz, h.1]; omega, fun k hk => ?_, h.2.2.1, fun k hk => h.2.2.2 k (by omega)⟩
  by_cases e : k = n
  · subst e
    exact hc
  · have h2 := h.2.1 k (by omega)
    exact h2.kept (ho _ (by show zB E + k < H.size; rw [h.1]; omega))
theorem r_new {n : Nat} (C : Cx E K y cc nL (rmk f lo fc fs) ret) (hC : ClsOK ci Cn T N ty) (hk : Kd n = ci) (q1 : Cond.classLink y.cls idx Cn ∈ TB) (q2 : Cond.instantiable Cn N ∈ TB) (q3 : Cond.initialized Cn ∈ TB) (d : decode cc pc = .ok (.new idx, 3)) (h3 : cs + 1 ≤ fc) (h4 : sl + N ≤ fs)
    (g : GG E K bf (n + 1) R S O (cs + 1) (sl + N) L (pc + 3) (.ref (zad E n) :: st) t) : GG E K bf n R S O cs sl L pc st t := fun e H locs ls hR hS hl => by
  obtain ⟨x1, x2, x3, x4, x5, x6, x7, x8, x9, x10, x11⟩ := C
  obtain ⟨a1, a2, a3, a4, a5, a6, a7, a8⟩ := hC
  obtain ⟨M, hraw, hag⟩ := hR
  have hKn := x6.1.1 ci _ a1
  have hsz : H.size = zad E n := hraw.1
  refine W.newcK x1 x2 x4 (x5 _ q1) (x5 _ q2) (x5 _ q3) rfl d (by rw [x9]; exact h3) (by rw [x9]; exact h4) hKn.2.1 rfl fun H1 kC hkC e1 z1 o1 => ?_
  rw [hsz] at e1 ⊢
  refine g e H1 locs ls ⟨M, fresh_up hraw z1 o1 ?_, hag⟩ ⟨Nat.le_trans hS.1 (by omega), fun x h1 h2 => (o1 x (Nat.lt_of_lt_of_le h1 hS.1)).trans (hS.2.1 x h1 h2), hS.2.2⟩ hl
  rw [zcell_obj hk a4, a3]
  refine ⟨_, a1, (u_born ty x5 a2 hKn hkC e1 a5).to fun j hj => ?_⟩
  rw [a8 j hj]
  show _ = ((List.range N).map (zfld E R M n)).getD j .null
  rw [List.getD_eq_getElem?_getD, zfl_get hj]
  have hM := (hraw.2.2.2 n (Nat.le_refl n) j)
  simp only [Option.getD_some, zfld, hk, hM.1, hM.2, zrv]
  rfl
theorem r_newi {n : Nat} {z : Int} (C : Cx E K y cc nL (rmk f lo fc fs) ret) (hk : Kd n = 100 ∨ Kd n = 101) (hz : z = Ln n) (q : Cond.arrayClass .int ∈ TB) (d : decode cc pc = .ok (.newarray .int, 2)) (hb : Ln n ≤ 100000) (h3 : cs + 1 ≤ fc) (h4 : sl + Ln n ≤ fs)
    (g : GG E K bf (n + 1) R S O (cs + 1) (sl + Ln n) L (pc + 2) (.ref (zad E n) :: st) t) : GG E K bf n R S O cs sl L pc (.int (zi z) :: st) t := fun e H locs ls hR hS hl => by
  obtain ⟨x1, x2, x3, x4, x5, x6, x7, x8, x9, x10, x11⟩ := C
  obtain ⟨M, hraw, hag⟩ := hR
  have hsz : H.size = zad E n := hraw.1
  have hzr : IR z := ⟨by omega, by omega⟩
  refine va_newaK x1 x2 (atype := .int) (x5 _ q) rfl d rfl (fun w => by have := (zi_neg hzr).mp w; omega) (N := Ln n) (by rw [zi_cl hzr]; omega) (by show Ln n * 4 ≤ 536870912; omega) (by rw [x9]; exact h3) (by rw [x9]; exact h4) rfl fun H1 cA e1 z1 o1 hAr hNm => ?_
  rw [hsz] at e1 ⊢
  refine g e H1 locs ls ⟨M, fresh_up hraw z1 o1 ?_, hag⟩ ⟨Nat.le_trans hS.1 (by omega), fun x h1 h2 => (o1 x (Nat.lt_of_lt_of_le h1 hS.1)).trans (hS.2.1 x h1 h2), hS.2.2⟩ hl
  have hcA : cA = E.2.1.1 := Option.some.inj (hNm.symm.trans (x6.1.2 0 _ rfl).2)
  rw [zcell_i hk]
  show H1[zad E n]? = some (vp_cell _ _)
  rw [e1, hcA, vp_cell_i]
  congr 2
  funext j
  rw [(hraw.2.2.2 n (Nat.le_refl n) j).1]
  rfl
theorem r_newl {n : Nat} {z : Int} (C : Cx E K y cc nL (rmk f lo fc fs) ret) (hk : Kd n = 102) (hz : z = Ln n) (q : Cond.arrayClass .long ∈ TB) (d : decode cc pc = .ok (.newarray .long, 2)) (hb : Ln n ≤ 100000) (h3 : cs + 1 ≤ fc) (h4 : sl + Ln n ≤ fs)
    (g : GG E K bf (n + 1) R S O (cs + 1) (sl + Ln n) L (pc + 2) (.ref (zad E n) :: st) t) : GG E K bf n R S O cs sl L pc (.int (zi z) :: st) t := fun e H locs ls hR hS hl => by
  obtain ⟨x1, x2, x3, x4, x5, x6, x7, x8, x9, x10, x11⟩ := C
  obtain ⟨M, hraw, hag⟩ := hR
  have hsz : H.size = zad E n := hraw.1
  have hzr : IR z := ⟨by omega, by omega⟩
  refine va_newaK x1 x2 (atype := .long) (x5 _ q) rfl d rfl (fun w => by have := (zi_neg hzr).mp w; omega) (N := Ln n) (by rw [zi_cl hzr]; omega) (by show Ln n * 8 ≤ 536870912; omega) (by rw [x9]; exact h3) (by rw [x9]; exact h4) rfl fun H1 cA e1 z1 o1 hAr hNm => ?_
  rw [hsz] at e1 ⊢
  refine g e H1 locs ls ⟨M, fresh_up hraw z1 o1 ?_, hag⟩ ⟨Nat.le_trans hS.1 (by omega), fun x h1 h2 => (o1 x (Nat.lt_of_lt_of_le h1 hS.1)).trans (hS.2.1 x h1 h2), hS.2.2⟩ hl
  have hcA : cA = E.2.1.2.1 := Option.some.inj (hNm.symm.trans (x6.1.2 1 _ rfl).2)
  rw [zcell_l hk]
  show H1[zad E n]? = some (vp_cell _ _)
  rw [e1, hcA, vp_cell_l]
  congr 2
  funext j
  rw [(hraw.2.2.2 n (Nat.le_refl n) j).1]
  rfl
theorem r_newz {n : Nat} {z : Int} (C : Cx E K y cc nL (rmk f lo fc fs) ret) (hk : Kd n = 103) (hz : z = Ln n) (q : Cond.arrayClass .boolean ∈ TB) (d : decode cc pc = .ok (.newarray .boolean, 2)) (hb : Ln n ≤ 100000) (h3 : cs + 1 ≤ fc) (h4 : sl + Ln n ≤ fs)
    (g : GG E K bf (n + 1) R S O (cs + 1) (sl + Ln n) L (pc + 2) (.ref (zad E n) :: st) t) : GG E K bf n R S O cs sl L pc (.int (zi z) :: st) t := fun e H locs ls hR hS hl => by
  obtain ⟨x1, x2, x3, x4, x5, x6, x7, x8, x9, x10, x11⟩ := C
  obtain ⟨M, hraw, hag⟩ := hR
  have hsz : H.size = zad E n := hraw.1
  have hzr : IR z := ⟨by omega, by omega⟩
  refine va_newaK x1 x2 (atype := .boolean) (x5 _ q) rfl d rfl (fun w => by have := (zi_neg hzr).mp w; omega) (N := Ln n) (by rw [zi_cl hzr]; omega) (by show Ln n * 1 ≤ 536870912; omega) (by rw [x9]; exact h3) (by rw [x9]; exact h4) rfl fun H1 cA e1 z1 o1 hAr hNm => ?_
  rw [hsz] at e1 ⊢
  refine g e H1 locs ls ⟨M, fresh_up hraw z1 o1 ?_, hag⟩ ⟨Nat.le_trans hS.1 (by omega), fun x h1 h2 => (o1 x (Nat.lt_of_lt_of_le h1 hS.1)).trans (hS.2.1 x h1 h2), hS.2.2⟩ hl
  have hcA : cA = E.2.1.2.2.1 := Option.some.inj (hNm.symm.trans (x6.1.2 2 _ rfl).2)
  rw [zcell_z hk]
  show H1[zad E n]? = some (vp_cell _ _)
  rw [e1, hcA, vp_cell_i]
  congr 2
  funext j
  rw [(hraw.2.2.2 n (Nat.le_refl n) j).1]
  rfl
-- a method: from the entry, and its ends
def ZQ (E : EwT) (K : KxT) (P : Prop) (rv : Option Value) (n : Nat) (R : Srf) (S : Sst) (O : Smo) (cs sl : Nat) : Prop := K.Q = MQ K.below (zQ E P rv n R S O) K.args K.s cs sl (zA E)
theorem Met.ofWF {l : Launch} {y : MethodName} {ws ws' : List Cond} {rm : Room} {Pc : Array Value → State → Prop} {Qc : Array Value → State → Outcome → State → Prop} {mc ms : Nat} {free : Addr → Prop} {cc : ByteArray} {maxL : Nat} {ret : Option FieldType}
    (hy : plainFor y = true) (hw : ws = Cond.code y cc maxL ret :: ws')
    (body : ∀ p e s m args below meth c s₁, BodyLoose p l y (headSpec ws rm) cc maxL ret e s m args below meth c s₁ → c.maxLocals = maxL → Pc args s →
      W p l e (headSpec ws rm).room s m args below meth c s.heap [] 0 0 (MQ below Qc args s mc ms free) (entryFrame m args maxL)) : Met l y ws rm Pc Qc mc ms free := by
  refine MetFree.of_bodySF (code := cc) (maxLocals := maxL) (ret := ret) hy ?_ ?_
  · intro args s m h hn
    obtain ⟨meth, c, h1, h2, h3, h4, h5, h6, -, -⟩ := Cond.code_spec hn (atoms_spec (ws := ws) h _ (by rw [hw]; exact List.mem_cons_self))
    exact ⟨meth, c, h1, h2, h3, h4, h5, h6⟩
  · intro p e s m args below meth c s₁ B hml hP _
    have hh0 : s₁.heap = s.heap := by rw [B.state]; rfl
    obtain ⟨t, a1, o, b1, b2, b3⟩ := body p e s m args below meth c s₁ B hml hP s₁ hh0 (Stand.of_body B)
    exact ⟨t, o, a1, b1, b2, ⟨b3.1, b3.2⟩⟩
theorem ofG {l : Launch} {av : List Value} {q : γ} {L0 : List (Nat × Value)} (hq : t = q) (hp : plainFor u = true) (hsz : (lg_sl av).length ≤ maxL) (hL : lv_args 0 av = L0)
    (body : ∀ K : KxT, K.l = l → Cx E K u bytes maxL (rmk f lo mc ms) rt → ZQ E K P rv n' R' S' O' mc ms → GG E K q n R S O 0 0 L0 0 [] t) : MetG l E u bytes maxL rt f lo mc ms n R S O av P rv n' R' S' O' := by
  refine Met.ofWF (cc := bytes) (maxL := maxL) (ret := rt) hp rfl ?_
  intro p e s m args below meth c s₁ B hml hv
  obtain ⟨rfl, hR, hV⟩ := hv
  have hts := atoms_spec (ws := Cond.code u bytes maxL rt :: TB) B.pre
  have hown : s.vm.findClass u.cls = some m.cls := findClass_of_methodNamed B.named
  have hz : zB E ≤ s.heap.size := by have := hR.size; omega
  have hl := lv_entry av (n := maxL) hsz
  rw [lg_entry_eq]
  rw [hL] at hl
  exact body (p, l, e, (headSpec (Cond.code u bytes maxL rt :: TB) (rmk f lo mc ms)).room, s, m, av.toArray, below, meth, c, MQ below (zQ E P rv n' R' S' O') av.toArray s mc ms (zA E)) rfl
    ⟨B.exec, B.bytes, hml, hown, fun w hw => hts w (List.mem_cons_of_mem _ hw), hV, hz, B.notSynchronized, rfl, B.returns, (name_of_methodNamed B.named B.method).1⟩ (by unfold ZQ; rfl) hq s.heap [] _ hR va_S.rf (by show lv_has _ c.maxLocals _; rw [hml]; exact hl)
theorem r_ireturn {z : Int} {rty : FieldType} (C : Cx E K y cc nL rm (some rty)) (hQ : ZQ E K P rv n' R' S' O' cs sl) (hn : narrow rty (.int (zi z)) = .int (zi z)) (d : decode cc pc = .ok (.ireturn, 1)) (hfin : t = bf → P ∧ rv = some (.int (zi z)) ∧ n' = n ∧ R' = R ∧ S' = S ∧ O' = O) : GG E K bf n R S O cs sl L pc [.int (zi z)] t := fun e H locs ls hR hS hl => by
  obtain ⟨hP, rfl, rfl, rfl, rfl, rfl⟩ := hfin e
  obtain ⟨x1, x2, x3, x4, x5, x6, x7, x8, x9, x10, x11⟩ := C
  rw [hQ]
  exact W.zret x1 x2 x10 hn (fun t ht hW => ⟨⟨rfl, hP, by rw [ht]; exact hR⟩, hS.F ht⟩) hS.2.2 d x8
theorem r_lreturn {z : Int} (C : Cx E K y cc nL rm (some .long)) (hQ : ZQ E K P rv n' R' S' O' cs sl) (d : decode cc pc = .ok (.lreturn, 1)) (hfin : t = bf → P ∧ rv = some (.long (zl z)) ∧ n' = n ∧ R' = R ∧ S' = S ∧ O' = O) : GG E K bf n R S O cs sl L pc [.long (zl z)] t := fun e H locs ls hR hS hl => by
  obtain ⟨hP, rfl, rfl, rfl, rfl, rfl⟩ := hfin e
  obtain ⟨x1, x2, x3, x4, x5, x6, x7, x8, x9, x10, x11⟩ := C
  rw [hQ]
  exact W.lret x1 x2 x10 (fun t ht hW => ⟨⟨rfl, hP, by rw [ht]; exact hR⟩, hS.F ht⟩) hS.2.2 d x8
theorem r_areturn {r : Nat} {nm : String} (C : Cx E K y cc nL rm (some (.object nm))) (hQ : ZQ E K P rv n' R' S' O' cs sl) (d : decode cc pc = .ok (.areturn, 1)) (hfin : t = bf → P ∧ rv = some (.ref (zad E r)) ∧ n' = n ∧ R' = R ∧ S' = S ∧ O' = O) : GG E K bf n R S O cs sl L pc [.ref (zad E r)] t := fun e H locs ls hR hS hl => by
  obtain ⟨hP, rfl, rfl, rfl, rfl, rfl⟩ := hfin e
  obtain ⟨x1, x2, x3, x4, x5, x6, x7, x8, x9, x10, x11⟩ := C
  rw [hQ]
  exact W.aret x1 x2 x10 (Or.inl ⟨_, rfl⟩) (Or.inr ⟨_, rfl⟩) (fun t ht hW => ⟨⟨rfl, hP, by rw [ht]; exact hR⟩, hS.F ht⟩) hS.2.2 d x8
theorem r_return (C : Cx E K y cc nL rm none) (hQ : ZQ E K P rv n' R' S' O' cs sl) (d : decode cc pc = .ok (.return_, 1)) (hfin : t = bf → P ∧ rv = none ∧ n' = n ∧ R' = R ∧ S' = S ∧ O' = O) : GG E K bf n R S O cs sl L pc [] t := fun e H locs ls hR hS hl => by
  obtain ⟨hP, rfl, rfl, rfl, rfl, rfl⟩ := hfin e
  obtain ⟨x1, x2, x3, x4, x5, x6, x7, x8, x9, x10, x11⟩ := C
  rw [hQ]
  exact W.vret x1 x2 x10 (fun t ht hW => ⟨⟨rfl, hP, by rw [ht]; exact hR⟩, hS.F ht⟩) hS.2.2 d x8
-- binding
theorem r_jn {x : α} {F : α → γ} (g : ∀ q, x = q → GG E K bf n R S O cs sl L pc st (F q)) : GG E K bf n R S O cs sl L pc st (jn x F) := g x rfl
theorem r_bd {x : Option α} {F : α → Option γ} (g : ∀ q, x = some q → GG E K (some bf) n R S O cs sl L pc st (F q)) : GG E K (some bf) n R S O cs sl L pc st (Option.bind x F) := by
  cases x with
  | none => exact fun e => by cases e
  | some q => exact g q rfl
theorem r_jv {x : Int} {F : Int → γ} (h : IR x) (g : ∀ z, IR z → GG E K bf n R S O cs sl L pc (.int (zi z) :: st) (F z)) : GG E K bf n R S O cs sl L pc (.int (zi x) :: st) (jn x F) := g x h
theorem r_jvz {x : Int} {F : Int → γ} (h : BR x) (g : ∀ z, BR z → GG E K bf n R S O cs sl L pc (.int (zi z) :: st) (F z)) : GG E K bf n R S O cs sl L pc (.int (zi x) :: st) (jn x F) := g x h
theorem r_jvl {x : Int} {F : Int → γ} (h : LR x) (g : ∀ z, LR z → GG E K bf n R S O cs sl L pc (.long (zl z) :: st) (F z)) : GG E K bf n R S O cs sl L pc (.long (zl x) :: st) (jn x F) := g x h
theorem r_ite {c : Prop} [Decidable c] {t1 t2 : γ} (g1 : c → GG E K bf n R S O cs sl L pc st t1) (g2 : ¬ c → GG E K bf n R S O cs sl L pc st t2) : GG E K bf n R S O cs sl L pc st (if c then t1 else t2) := by
  by_cases h : c
  · rw [if_pos h]; exact g1 h
  · rw [if_neg h]; exact g2 h
theorem r_t {c : Prop} [Decidable c] {t1 t2 : γ} (h : c) (g : GG E K bf n R S O cs sl L pc st t1) : GG E K bf n R S O cs sl L pc st (if c then t1 else t2) := by rw [if_pos h]; exact g
theorem r_f {c : Prop} [Decidable c] {t1 t2 : γ} (h : ¬ c) (g : GG E K bf n R S O cs sl L pc st t2) : GG E K bf n R S O cs sl L pc st (if c then t1 else t2) := by rw [if_neg h]; exact g
theorem r_jt {c : Prop} [Decidable c] {x1 x2 : α} {F : α → γ} (h : c) (g : GG E K bf n R S O cs sl L pc st (jn x1 F)) : GG E K bf n R S O cs sl L pc st (jn (if c then x1 else x2) F) := by rw [if_pos h]; exact g
theorem r_jf {c : Prop} [Decidable c] {x1 x2 : α} {F : α → γ} (h : ¬ c) (g : GG E K bf n R S O cs sl L pc st (jn x2 F)) : GG E K bf n R S O cs sl L pc st (jn (if c then x1 else x2) F) := by rw [if_neg h]; exact g
theorem r_bt {c : Prop} [Decidable c] {x1 x2 : Option α} {F : α → Option γ} {bf : Option γ} (h : c) (g : GG E K bf n R S O cs sl L pc st (Option.bind x1 F)) : GG E K bf n R S O cs sl L pc st (Option.bind (if c then x1 else x2) F) := by rw [if_pos h]; exact g
theorem r_bf {c : Prop} [Decidable c] {x1 x2 : Option α} {F : α → Option γ} {bf : Option γ} (h : ¬ c) (g : GG E K bf n R S O cs sl L pc st (Option.bind x2 F)) : GG E K bf n R S O cs sl L pc st (Option.bind (if c then x1 else x2) F) := by rw [if_neg h]; exact g
theorem r_bb {δ : Type} {x : Option δ} {G : δ → Option α} {F : α → Option γ} {bf : Option γ} (g : GG E K bf n R S O cs sl L pc st (Option.bind x (fun v => Option.bind (G v) F))) : GG E K bf n R S O cs sl L pc st (Option.bind (Option.bind x G) F) := by
  rw [Option.bind_assoc]
  exact g
theorem r_bj {δ : Type} {x : δ} {G : δ → Option α} {F : α → Option γ} {bf : Option γ} (g : GG E K bf n R S O cs sl L pc st (jn x (fun v => Option.bind (G v) F))) : GG E K bf n R S O cs sl L pc st (Option.bind (jn x G) F) := g
theorem r_jj {δ : Type} {x : δ} {G : δ → α} {F : α → γ} (g : GG E K bf n R S O cs sl L pc st (jn x (fun v => jn (G v) F))) : GG E K bf n R S O cs sl L pc st (jn (jn x G) F) := g
/-- a join: what stands behind it is proved once -/
theorem r_join {x : α} {F : α → γ} (Pq : α → Prop) (Sq : α → Sst) (Oq : α → Smo) (Lq : α → List (Nat × Value)) (pj : Nat) (sq : α → List Value) (hJ : ∀ q, Pq q → GG E K bf n R (Sq q) (Oq q) cs sl (Lq q) pj (sq q) (F q))
    (hb : ∀ F' : α → γ, (∀ q, Pq q → GG E K bf n R (Sq q) (Oq q) cs sl (Lq q) pj (sq q) (F' q)) → GG E K bf n R S O cs sl L pc st (jn x F')) : GG E K bf n R S O cs sl L pc st (jn x F) := hb F hJ
theorem r_joinb {x : Option α} {F : α → Option γ} {bf : Option γ} (Pq : α → Prop) (Sq : α → Sst) (Oq : α → Smo) (Lq : α → List (Nat × Value)) (pj : Nat) (sq : α → List Value) (hJ : ∀ q, Pq q → GG E K bf n R (Sq q) (Oq q) cs sl (Lq q) pj (sq q) (F q))
    (hb : ∀ F' : α → Option γ, (∀ q, Pq q → GG E K bf n R (Sq q) (Oq q) cs sl (Lq q) pj (sq q) (F' q)) → GG E K bf n R S O cs sl L pc st (Option.bind x F')) : GG E K bf n R S O cs sl L pc st (Option.bind x F) := hb F hJ
/-- a loop -/
theorem r_loop {σ ρ : Type} {step : σ → Option (σ ⊕ ρ)} {F : ρ → Option γ} {s0 : σ} (I : σ → Prop) (Sq : σ → Sst) (Oq : σ → Smo) (Lq : σ → List (Nat × Value)) (sq : σ → List Value)
    (hb : ∀ k : σ → Option γ, (∀ s, I s → GG E K (some bf) n R (Sq s) (Oq s) cs sl (Lq s) pc (sq s) (k s)) → ∀ s, I s → GG E K (some bf) n R (Sq s) (Oq s) cs sl (Lq s) pc (sq s) (Option.bind (step s) (fun q => Sum.elim k F q)))
    (h0 : I s0) : GG E K (some bf) n R (Sq s0) (Oq s0) cs sl (Lq s0) pc (sq s0) (Option.bind (lp step FU s0) F) := by
  have key : ∀ (m : Nat) (s : σ), I s → GG E K (some bf) n R (Sq s) (Oq s) cs sl (Lq s) pc (sq s) (Option.bind (lp step m s) F) := by
    intro m
    induction m with
    | zero => exact fun s _ e => by cases e
    | succ m ih =>
      intro s hs
      have h := hb (fun s => Option.bind (lp step m s) F) ih s hs
      have e : Option.bind (lp step (m + 1) s) F = Option.bind (step s) (fun q => Sum.elim (fun s => Option.bind (lp step m s) F) F q) := by
        show Option.bind (Option.bind (step s) _) F = _
        cases hst : step s with
        | none => rfl
        | some q => cases q <;> rfl
      rw [e]
      exact h
  exact key FU s0 h0
theorem r_some {x : α} {F : α → Option γ} {bf : Option γ} (g : GG E K bf n R S O cs sl L pc st (F x)) : GG E K bf n R S O cs sl L pc st (Option.bind (some x) F) := g
theorem r_pure {x : α} {F : α → γ} (g : GG E K bf n R S O cs sl L pc st (F x)) : GG E K bf n R S O cs sl L pc st (jn x F) := g
theorem r_inl {σ ρ : Type} {s : σ} {k : σ → Option γ} {F : ρ → Option γ} {bf : Option γ} (g : GG E K bf n R S O cs sl L pc st (k s)) : GG E K bf n R S O cs sl L pc st (Option.bind (some (Sum.inl s)) (fun q => Sum.elim k F q)) := g
theorem r_inr {σ ρ : Type} {s : ρ} {k : σ → Option γ} {F : ρ → Option γ} {bf : Option γ} (g : GG E K bf n R S O cs sl L pc st (F s)) : GG E K bf n R S O cs sl L pc st (Option.bind (some (Sum.inr s)) (fun q => Sum.elim k F q)) := g
end ROWS3
