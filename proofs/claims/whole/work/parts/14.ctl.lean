/-! BASE 7: conditions of several tests, loops with their exits, switches, literals -/
theorem IRd {z : Int} (h : decide (-2147483648 ≤ z ∧ z < 2147483648) = true) : IR z := by
  have h2 := of_decide_eq_true h
  exact h2
theorem BRd {z : Int} (h : decide (0 ≤ z ∧ z ≤ 1) = true) : BR z := by
  have h2 := of_decide_eq_true h
  exact h2
theorem LRd {z : Int} (h : decide (-9223372036854775808 ≤ z ∧ z < 9223372036854775808) = true) : LR z := by
  have h2 := of_decide_eq_true h
  exact h2
theorem IR.lr {z : Int} (h : IR z) : LR z := ⟨by have := h.1; omega, by have := h.2; omega⟩
theorem nar_z {z : Int} (h : BR z) : narrow .boolean (.int (zi z)) = .int (zi z) := by
  have : z = 0 ∨ z = 1 := by have := h.1; have := h.2; omega
  rcases this with rfl | rfl <;> rfl
def jk {α γ : Type} (F : α → γ) (G : (α → γ) → γ) : γ := G F
section ROWS4
variable {γ α : Type} {E : EwT} {K : KxT} {bf : γ} {n : Nat} {R : Srf} {S : Sst} {O : Smo} {cs sl : Nat} {L : List (Nat × Value)} {pc : Nat} {st : List Value} {t : γ}
variable {y u : MethodName} {cc bytes : ByteArray} {nL maxL nargs f lo f' lo' fc fs : Nat} {rm : Room} {ret rt : Option FieldType} {ci : Nat} {T : u_T} {N : Nat} {ty : Nat → FieldType} {k idx : Nat} {As stk : List Value} {S' : Sst} {O' : Smo} {P : Prop} {v : Value}
theorem r_cut (c : Prop) (pT pF : Nat) (st' : List Value) (gT : c → GG E K bf n R S O cs sl L pT st' t) (gF : ¬ c → GG E K bf n R S O cs sl L pF st' t)
    (hb : (c → GG E K bf n R S O cs sl L pT st' t) → (¬ c → GG E K bf n R S O cs sl L pF st' t) → GG E K bf n R S O cs sl L pc st t) : GG E K bf n R S O cs sl L pc st t := hb gT gF
theorem r_jk {F : α → γ} {G : (α → γ) → γ} (Pq : α → Prop) (Sq : α → Sst) (Oq : α → Smo) (Lq : α → List (Nat × Value)) (pj : Nat) (sq : α → List Value) (hJ : ∀ q, Pq q → GG E K bf n R (Sq q) (Oq q) cs sl (Lq q) pj (sq q) (F q))
    (hb : ∀ F' : α → γ, (∀ q, Pq q → GG E K bf n R (Sq q) (Oq q) cs sl (Lq q) pj (sq q) (F' q)) → GG E K bf n R S O cs sl L pc st (G F')) : GG E K bf n R S O cs sl L pc st (jk F G) := hb F hJ
theorem r_loop1 {σ ρ : Type} {step : σ → Option (σ ⊕ ρ)} {F : ρ → Option γ} {s0 : σ} (I : σ → Prop) (Sq : σ → Sst) (Oq : σ → Smo) (Lq : σ → List (Nat × Value)) (sq : List Value)
    (Px : ρ → Prop) (Sx : ρ → Sst) (Ox : ρ → Smo) (Lx : ρ → List (Nat × Value)) (px : Nat) (hX : ∀ r, Px r → GG E K (some bf) n R (Sx r) (Ox r) cs sl (Lx r) px sq (F r))
    (hb : ∀ (k : σ → Option γ) (F' : ρ → Option γ), (∀ s, I s → GG E K (some bf) n R (Sq s) (Oq s) cs sl (Lq s) pc sq (k s)) → (∀ r, Px r → GG E K (some bf) n R (Sx r) (Ox r) cs sl (Lx r) px sq (F' r)) →
      ∀ s, I s → GG E K (some bf) n R (Sq s) (Oq s) cs sl (Lq s) pc sq (Option.bind (step s) (fun q => Sum.elim k F' q)))
    (h0 : I s0) : GG E K (some bf) n R (Sq s0) (Oq s0) cs sl (Lq s0) pc sq (Option.bind (lp step FU s0) F) :=
  r_loop I Sq Oq Lq (fun _ => sq) (fun k hk => hb k F hk hX) h0
theorem r_loop2 {σ ρ ρ2 : Type} {step : σ → Option (σ ⊕ (ρ ⊕ ρ2))} {F : ρ → Option γ} {F2 : ρ2 → Option γ} {s0 : σ} (I : σ → Prop) (Sq : σ → Sst) (Oq : σ → Smo) (Lq : σ → List (Nat × Value)) (sq : List Value)
    (Px : ρ → Prop) (Sx : ρ → Sst) (Ox : ρ → Smo) (Lx : ρ → List (Nat × Value)) (px : Nat) (hX : ∀ r, Px r → GG E K (some bf) n R (Sx r) (Ox r) cs sl (Lx r) px sq (F r))
    (Px2 : ρ2 → Prop) (Sx2 : ρ2 → Sst) (Ox2 : ρ2 → Smo) (Lx2 : ρ2 → List (Nat × Value)) (px2 : Nat) (hX2 : ∀ r, Px2 r → GG E K (some bf) n R (Sx2 r) (Ox2 r) cs sl (Lx2 r) px2 sq (F2 r))
    (hb : ∀ (k : σ → Option γ) (F' : ρ → Option γ) (F2' : ρ2 → Option γ), (∀ s, I s → GG E K (some bf) n R (Sq s) (Oq s) cs sl (Lq s) pc sq (k s)) → (∀ r, Px r → GG E K (some bf) n R (Sx r) (Ox r) cs sl (Lx r) px sq (F' r)) → (∀ r, Px2 r → GG E K (some bf) n R (Sx2 r) (Ox2 r) cs sl (Lx2 r) px2 sq (F2' r)) →
      ∀ s, I s → GG E K (some bf) n R (Sq s) (Oq s) cs sl (Lq s) pc sq (Option.bind (step s) (fun q => Sum.elim k (fun q => Sum.elim F' F2' q) q)))
    (h0 : I s0) : GG E K (some bf) n R (Sq s0) (Oq s0) cs sl (Lq s0) pc sq (Option.bind (lp step FU s0) (fun q => Sum.elim F F2 q)) :=
  r_loop I Sq Oq Lq (fun _ => sq) (fun k hk => hb k F F2 hk hX hX2) h0
-- switches
theorem osw_ne : ∀ (ps : List (Int × Int)) (d x : Int), (∀ q ∈ ps, ¬ x = q.1) → Op.lookupswitch.offset ps d x = d := by
  intro ps d x h
  induction ps with
  | nil => rfl
  | cons a l ih =>
    obtain ⟨a, o⟩ := a
    have h1 := h (a, o) List.mem_cons_self
    have h2 := ih (fun q hq => h q (List.mem_cons_of_mem _ hq))
    have h3 : Op.lookupswitch.offset ((a, o) :: l) d x = Op.lookupswitch.offset l d x := by
      simp only [Op.lookupswitch.offset]
      rw [if_neg]
      intro e
      first
        | exact h1 e.symm
        | (simp only [beq_iff_eq] at e; exact h1 e.symm)
    exact h3.trans h2
theorem r_lswIn {dflt off x : Int} {ps : Array (Int × Int)} {len tgt : Nat} {kx : Int} (C : Cx E K y cc nL rm ret) (hx : IR x) (d : decode cc pc = .ok (.lookupswitch dflt ps, len)) (hp : (ps.toList.zip (ps.toList.drop 1)).all (fun (a, next) => a.1 < next.1) = true) (h : x = kx) (ho : Op.lookupswitch.offset ps.toList dflt kx = off) (ht : (pc : Int) + off = (tgt : Int))
    (g : GG E K bf n R S O cs sl L tgt st t) : GG E K bf n R S O cs sl L pc (.int (zi x) :: st) t := fun e H locs ls hR hS hl =>
  lv_lookup C.1 C.2.1 d hp (by rw [zi_t hx, h]; exact ho) ht (g e H locs ls hR hS hl)
theorem r_lswOut {dflt x : Int} {ps : Array (Int × Int)} {len tgt : Nat} (C : Cx E K y cc nL rm ret) (hx : IR x) (d : decode cc pc = .ok (.lookupswitch dflt ps, len)) (hp : (ps.toList.zip (ps.toList.drop 1)).all (fun (a, next) => a.1 < next.1) = true) (h : ∀ q ∈ ps.toList, ¬ x = q.1) (ht : (pc : Int) + dflt = (tgt : Int))
    (g : GG E K bf n R S O cs sl L tgt st t) : GG E K bf n R S O cs sl L pc (.int (zi x) :: st) t := fun e H locs ls hR hS hl =>
  lv_lookup C.1 C.2.1 d hp (by rw [zi_t hx]; exact osw_ne _ _ _ h) ht (g e H locs ls hR hS hl)
theorem r_tswIn {dflt l h off x : Int} {offs : Array Int} {len tgt : Nat} {kx : Int} (C : Cx E K y cc nL rm ret) (hx : IR x) (d : decode cc pc = .ok (.tableswitch dflt l h offs, len)) (hk : x = kx) (h1 : ¬ kx < l) (h2 : ¬ h < kx) (ho : offs[(kx - l).toNat]? = some off) (ht : (pc : Int) + off = (tgt : Int))
    (g : GG E K bf n R S O cs sl L tgt st t) : GG E K bf n R S O cs sl L pc (.int (zi x) :: st) t := fun e H locs ls hR hS hl =>
  lv_tableIn C.1 C.2.1 d (by rw [zi_t hx, hk]; exact h1) (by rw [zi_t hx, hk]; exact h2) (by rw [zi_t hx, hk]; exact ho) ht (g e H locs ls hR hS hl)
theorem r_tswOut {dflt l h x : Int} {offs : Array Int} {len tgt : Nat} (C : Cx E K y cc nL rm ret) (hx : IR x) (d : decode cc pc = .ok (.tableswitch dflt l h offs, len)) (hk : x < l ∨ h < x) (ht : (pc : Int) + dflt = (tgt : Int))
    (g : GG E K bf n R S O cs sl L tgt st t) : GG E K bf n R S O cs sl L pc (.int (zi x) :: st) t := fun e H locs ls hR hS hl =>
  lv_tableOut C.1 C.2.1 d (by rw [zi_t hx]; exact hk) ht (g e H locs ls hR hS hl)
-- calls that make no cells
theorem r_cV1 (C : Cx E K y cc nL (rmk f lo fc fs) ret) (M : MetG K.l E u bytes maxL rt f' lo' 0 0 n R S O (.ref (zad E k) :: As) P (some v) n R S' O') (W0 : CalV u bytes maxL rt nargs) (hcl : ClsOK ci u.cls T N ty) (hk : Kd k = ci) (hn : k < n)
    (q : Cond.methodLink y.cls idx u ∈ TB) (d : decode cc pc = .ok (.invokevirtual idx, 3)) (hst : stk = As.reverse ++ .ref (zad E k) :: st) (ha : As.length = nargs) (hw : (st.map fun v => v.category).sum ≤ 8) (h1 : f' + 1 ≤ f) (h2 : 8 + (maxL + 11) + lo' ≤ lo) (h3 : cs ≤ fc) (h4 : sl ≤ fs)
    (g : P → GG E K bf n R S' O' cs sl L (pc + 3) (v :: st) t) : GG E K bf n R S O cs sl L pc stk t := r_callV C M W0 hcl hk hn q d hst ha hw h1 h2 h3 h4 g
theorem r_cV0 (C : Cx E K y cc nL (rmk f lo fc fs) ret) (M : MetG K.l E u bytes maxL rt f' lo' 0 0 n R S O (.ref (zad E k) :: As) P none n R S' O') (W0 : CalV u bytes maxL rt nargs) (hcl : ClsOK ci u.cls T N ty) (hk : Kd k = ci) (hn : k < n)
    (q : Cond.methodLink y.cls idx u ∈ TB) (d : decode cc pc = .ok (.invokevirtual idx, 3)) (hst : stk = As.reverse ++ .ref (zad E k) :: st) (ha : As.length = nargs) (hw : (st.map fun v => v.category).sum ≤ 8) (h1 : f' + 1 ≤ f) (h2 : 8 + (maxL + 11) + lo' ≤ lo) (h3 : cs ≤ fc) (h4 : sl ≤ fs)
    (g : P → GG E K bf n R S' O' cs sl L (pc + 3) st t) : GG E K bf n R S O cs sl L pc stk t := r_callV C M W0 hcl hk hn q d hst ha hw h1 h2 h3 h4 g
theorem r_cS1 (C : Cx E K y cc nL (rmk f lo fc fs) ret) (M : MetG K.l E u bytes maxL rt f' lo' 0 0 n R S O As P (some v) n R S' O') (W0 : CalS u bytes maxL rt nargs)
    (q : Cond.methodLink y.cls idx u ∈ TB) (d : decode cc pc = .ok (.invokestatic idx, 3)) (hst : stk = As.reverse ++ st) (ha : As.length = nargs) (hw : (st.map fun v => v.category).sum ≤ 8) (h1 : f' + 1 ≤ f) (h2 : 8 + (maxL + 11) + lo' ≤ lo) (h3 : cs ≤ fc) (h4 : sl ≤ fs)
    (g : P → GG E K bf n R S' O' cs sl L (pc + 3) (v :: st) t) : GG E K bf n R S O cs sl L pc stk t := r_callS C M W0 q d hst ha hw h1 h2 h3 h4 g
theorem r_ldcS0 (C : Cx E K y cc nL rm ret) (hy : y.cls = "StampMap$Lexer") (d : decode cc pc = .ok (.ldc 23, 2)) (g : GG E K bf n R S O cs sl L (pc + 2) (.ref (zX E 0) :: st) t) : GG E K bf n R S O cs sl L pc st t := fun e H locs ls hR hS hl =>
  va_ldcS C.1 C.2.1 (own := "StampMap$Lexer") (hy ▸ C.2.2.2.1) C.2.2.2.2.2.1.2.1 d (g e H locs ls hR hS hl)
theorem r_ldcS1 (C : Cx E K y cc nL rm ret) (hy : y.cls = "StampMap$Lexer") (d : decode cc pc = .ok (.ldc 98, 2)) (g : GG E K bf n R S O cs sl L (pc + 2) (.ref (zX E 1) :: st) t) : GG E K bf n R S O cs sl L pc st t := fun e H locs ls hR hS hl =>
  va_ldcS C.1 C.2.1 (own := "StampMap$Lexer") (hy ▸ C.2.2.2.1) C.2.2.2.2.2.1.2.2.1 d (g e H locs ls hR hS hl)
theorem r_cStr1 {i : Nat} (hi : i < 2) (C : Cx E K y cc nL (rmk f lo fc fs) ret) (M : MetG K.l E u bytes maxL rt f' lo' 0 0 n R S O (.ref (zX E i) :: As) P (some v) n R S' O') (W0 : CalV u bytes maxL rt nargs) (hcl : u.cls = "java/lang/String")
    (q : Cond.methodLink y.cls idx u ∈ TB) (d : decode cc pc = .ok (.invokevirtual idx, 3)) (hst : stk = As.reverse ++ .ref (zX E i) :: st) (ha : As.length = nargs) (hw : (st.map fun v => v.category).sum ≤ 8) (h1 : f' + 1 ≤ f) (h2 : 8 + (maxL + 11) + lo' ≤ lo) (h3 : cs ≤ fc) (h4 : sl ≤ fs)
    (g : P → GG E K bf n R S' O' cs sl L (pc + 3) (v :: st) t) : GG E K bf n R S O cs sl L pc stk t := fun e H locs ls hR hS hl => by
  obtain ⟨w1, w2, w3, w4, w5⟩ := W0
  obtain ⟨x1, x2, x3, x4, x5, x6, x7, x8, x9, x10, x11⟩ := C
  have hrecv : ∃ cell : Cell, H[zX E i]? = some cell ∧ cell.vm.isStatics = false ∧ K.s.vm.findClass u.cls = some cell.cls := by
    rw [hcl]
    exact vk_recv x6.2.2.2.1 hi hS
  subst hst
  refine afterCall (mc := 0) (ms := 0) (P := P) (rv := some v) (n' := n) (R' := R) (S' := S') (O' := O') (E := E) (va_runV (As := As) (rest := st) (nL := nL) (own := y.cls) (Ts := TB) ⟨x1, x2, x3, x4, x5⟩ M (cwV nargs x5 (TB_in5 q w1 w2 w3 w4) rfl rfl rfl ⟨rfl, w5⟩ ⟨by rw [x9]; exact h1, by rw [x9]; exact h2⟩)
    ⟨zPc.blind _ _ _ _ _ _, hrecv, fun U hU hW => ⟨rfl, by rw [hU]; exact hR, zV.call x6 hW (locs := locs) (by rw [hU]; exact hS)⟩⟩ rfl ha (by rw [← x3]; exact hl.1) rfl (lv_room hw) d ⟨by rw [x9]; exact h3, by rw [x9]; exact h4⟩) hS fun hP H1 locs1 hR1 hS1 => ?_
  exact g hP e H1 locs1 ls hR1 hS1 hl
end ROWS4
-- the classes of more than one object: a row, a plan, a formula, a store
def gRw (n : Nat) (R : Srf) (r : Nat) : Prop := Kd r = 6 ∧ r + 1 < n ∧ r + 1 < nC ∧ R r 0 = r + 1
def plPairs : List (Nat × Nat × Nat) := [(0, 0, 1), (0, 1, 3), (0, 2, 5), (0, 3, 7), (0, 4, 9), (0, 5, 11), (0, 6, 13), (0, 7, 15), (0, 8, 17), (0, 9, 19), (1, 0, 2), (3, 0, 4), (5, 0, 6), (7, 0, 8), (9, 0, 10), (11, 0, 12), (13, 0, 14), (15, 0, 16), (17, 0, 18), (19, 1, 20), (19, 2, 22), (20, 0, 21), (22, 0, 23)]
def fmPairs : List (Nat × Nat × Nat) := [(0, 1, 1), (0, 2, 3), (1, 0, 2), (3, 0, 4)]
def stPairs : List (Nat × Nat × Nat) := (List.range 16).map (fun i => (0, i, 2 * i + 1)) ++ (List.range 16).map (fun i => (2 * i + 1, 0, 2 * i + 2))
def gPl (n : Nat) (R : Srf) (p : Nat) : Prop := (p = 5 ∨ p = 29) ∧ p + 24 ≤ n ∧ ∀ e ∈ plPairs, R (p + e.1) e.2.1 = p + e.2.2
def gFm (n : Nat) (R : Srf) (p : Nat) : Prop := (p = 24 ∨ p = 48) ∧ p + 5 ≤ n ∧ ∀ e ∈ fmPairs, R (p + e.1) e.2.1 = p + e.2.2
def gSt (n : Nat) (R : Srf) (p : Nat) : Prop := (p = 74 ∨ p = 107 ∨ p = 140 ∨ p = 173 ∨ p = 206) ∧ p + 33 ≤ n ∧ ∀ e ∈ stPairs, R (p + e.1) e.2.1 = p + e.2.2
theorem gPl_k {n : Nat} {R : Srf} {p : Nat} (h : gPl n R p) : Kd p = 4 ∧ p < n ∧ p < nC := ⟨by rcases h.1 with rfl | rfl <;> decide +kernel, by have := h.2.1; omega, by rcases h.1 with rfl | rfl <;> decide⟩
theorem gFm_k {n : Nat} {R : Srf} {p : Nat} (h : gFm n R p) : Kd p = 1 ∧ p < n ∧ p < nC := ⟨by rcases h.1 with rfl | rfl <;> decide +kernel, by have := h.2.1; omega, by rcases h.1 with rfl | rfl <;> decide⟩
theorem gSt_k {n : Nat} {R : Srf} {p : Nat} (h : gSt n R p) : Kd p = 7 ∧ p < n ∧ p < nC := ⟨by rcases h.1 with rfl | rfl | rfl | rfl | rfl <;> decide +kernel, by have := h.2.1; omega, by rcases h.1 with rfl | rfl | rfl | rfl | rfl <;> decide⟩
theorem gRw_k {n : Nat} {R : Srf} {p : Nat} (h : gRw n R p) : Kd p = 6 ∧ p < n ∧ p < nC := ⟨h.1, by have := h.2.1; omega, by have := h.2.2.1; omega⟩
theorem gPl_w {n : Nat} {R : Srf} {p : Nat} (h : gPl n R p) {i : Nat} (hi : i < 9) : gRw n R (p + (2 * i + 1)) := by
  have h2 := h.2.1
  have h3 := h.2.2
  refine ⟨?_, by omega, ?_, ?_⟩
  · have key : ∀ i, i < 9 → Kd (5 + (2 * i + 1)) = 6 ∧ Kd (29 + (2 * i + 1)) = 6 := by decide +kernel
    rcases h.1 with rfl | rfl
    · exact (key i hi).1
    · exact (key i hi).2
  · have : nC = 262 := rfl
    rcases h.1 with rfl | rfl <;> omega
  · have key : ∀ i, i < 9 → (2 * i + 1, 0, 2 * i + 2) ∈ plPairs := by decide +kernel
    exact h3 _ (key i hi)
theorem gPl_f {n : Nat} {R : Srf} {p : Nat} (h : gPl n R p) : gFm n R (p + 19) := by
  refine ⟨by rcases h.1 with rfl | rfl <;> simp, by have := h.2.1; omega, fun e he => ?_⟩
  have key : ∀ e ∈ fmPairs, (19 + e.1, e.2.1, 19 + e.2.2) ∈ plPairs := by decide +kernel
  have := h.2.2 _ (key e he)
  rw [Nat.add_assoc, this, Nat.add_assoc]
theorem gFm_w {n : Nat} {R : Srf} {p : Nat} (h : gFm n R p) {i : Nat} (hi : i < 2) : gRw n R (p + (2 * i + 1)) := by
  have h2 := h.2.1
  have h3 := h.2.2
  refine ⟨?_, by omega, ?_, ?_⟩
  · have key : ∀ i, i < 2 → Kd (24 + (2 * i + 1)) = 6 ∧ Kd (48 + (2 * i + 1)) = 6 := by decide +kernel
    rcases h.1 with rfl | rfl
    · exact (key i hi).1
    · exact (key i hi).2
  · have : nC = 262 := rfl
    rcases h.1 with rfl | rfl <;> omega
  · have key : ∀ i, i < 2 → (2 * i + 1, 0, 2 * i + 2) ∈ fmPairs := by decide +kernel
    exact h3 _ (key i hi)
theorem gSt_w {n : Nat} {R : Srf} {p : Nat} (h : gSt n R p) {i : Nat} (hi : i < 16) : gRw n R (p + (2 * i + 1)) := by
  have h2 := h.2.1
  have h3 := h.2.2
  refine ⟨?_, by omega, ?_, ?_⟩
  · have key : ∀ i, i < 16 → Kd (74 + (2 * i + 1)) = 6 ∧ Kd (107 + (2 * i + 1)) = 6 ∧ Kd (140 + (2 * i + 1)) = 6 ∧ Kd (173 + (2 * i + 1)) = 6 ∧ Kd (206 + (2 * i + 1)) = 6 := by decide +kernel
    have k := key i hi
    rcases h.1 with rfl | rfl | rfl | rfl | rfl
    · exact k.1
    · exact k.2.1
    · exact k.2.2.1
    · exact k.2.2.2.1
    · exact k.2.2.2.2
  · have : nC = 262 := rfl
    rcases h.1 with rfl | rfl | rfl | rfl | rfl <;> omega
  · have key : ∀ i, i < 16 → (2 * i + 1, 0, 2 * i + 2) ∈ stPairs := by decide +kernel
    exact h3 _ (key i hi)
