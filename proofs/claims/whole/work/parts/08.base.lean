/-! BASE 1: words, numbers, the memory of the two objects and its picture on the heap -/
theorem TB_good : ∀ w ∈ TB, w ∈ TB ∧ ((w.onTables && w.keeps) = true ∨ ∃ ty, w = .arrayClass ty) := fun _ h => ⟨h, good_of_word (List.mem_filter.mp h).2⟩
theorem TB_in {w : Cond} (h : w ∈ TB) : GoodIn TB (w :: TB) := fun u hu => by
  rcases List.mem_cons.mp hu with rfl | hu
  · exact TB_good _ h
  · exact TB_good _ hu
theorem TB_in5 {a b c d w : Cond} (ha : a ∈ TB) (hb : b ∈ TB) (hc : c ∈ TB) (hd : d ∈ TB) (h : w ∈ TB) : GoodIn TB ([a, b, c, d] ++ (w :: TB)) := fun u hu => by
  rcases List.mem_append.mp hu with hu | hu
  · simp only [List.mem_cons, List.not_mem_nil, or_false] at hu
    rcases hu with rfl | rfl | rfl | rfl
    · exact TB_good _ ha
    · exact TB_good _ hb
    · exact TB_good _ hc
    · exact TB_good _ hd
  · exact TB_in h u hu
def rmk (f lo mc ms : Nat) : Room := { frames := f, cells := mc, slots := ms, locals := lo }
-- numbers
abbrev Sst : Type := (Nat → List Int) × (Nat → Nat → Int)
abbrev Smo : Type := Nat → Nat → Int
abbrev Srf : Type := Nat → Nat → Nat
def zi (z : Int) : Int32 := Int32.ofInt z
def zl (z : Int) : Int64 := Int64.ofInt z
def IR (z : Int) : Prop := -2147483648 ≤ z ∧ z < 2147483648
def BR (z : Int) : Prop := 0 ≤ z ∧ z ≤ 1
def LR (z : Int) : Prop := -9223372036854775808 ≤ z ∧ z < 9223372036854775808
def wr (z : Int) : Int := (zi z).toInt
def wl (z : Int) : Int := (zl z).toInt
def zdiv (x y : Int) : Int := (zi x / zi y).toInt
def zrem (x y : Int) : Int := (zi x - zi x / zi y * zi y).toInt
def zand (x y : Int) : Int := (zi x &&& zi y).toInt
def zor (x y : Int) : Int := (zi x ||| zi y).toInt
def zxor (x y : Int) : Int := (zi x ^^^ zi y).toInt
def zshl (x y : Int) : Int := (zi x <<< (zi y &&& 31)).toInt
def zshr (x y : Int) : Int := (zi x >>> (zi y &&& 31)).toInt
def zushr (x y : Int) : Int := ((zi x).toUInt32 >>> ((zi y).toUInt32 &&& Int32.toUInt32 31)).toInt32.toInt
def zi2c (x : Int) : Int := ((zi x).toUInt32 % 65536).toInt32.toInt
def zlor (x y : Int) : Int := (zl x ||| zl y).toInt
def zlshl (x y : Int) : Int := (zl x <<< ((zi y).toInt64 &&& 63)).toInt
def zlcmp (x y : Int) : Int := if y < x then 1 else if x = y then 0 else -1
theorem i32_IR (x : Int32) : IR x.toInt := ⟨by have := Int32.le_toInt x; omega, by have := Int32.toInt_lt x; omega⟩
theorem i64_LR (x : Int64) : LR x.toInt := ⟨by have := Int64.le_toInt x; omega, by have := Int64.toInt_lt x; omega⟩
theorem BR.ir {z : Int} (h : BR z) : IR z := ⟨by have := h.1; omega, by have := h.2; omega⟩
theorem zi_t {z : Int} (h : IR z) : (zi z).toInt = z := Int32.toInt_ofInt_of_le (by have := h.1; omega) (by have := h.2; omega)
theorem zl_t {z : Int} (h : LR z) : (zl z).toInt = z := Int64.toInt_ofInt_of_le (by have := h.1; omega) (by have := h.2; omega)
theorem zi_of (x : Int32) : zi x.toInt = x := Int32.ofInt_toInt x
theorem zl_of (x : Int64) : zl x.toInt = x := Int64.ofInt_toInt x
theorem wr_id {z : Int} (h1 : -2147483648 ≤ z) (h2 : z < 2147483648) : wr z = z := zi_t ⟨h1, h2⟩
theorem wl_id {z : Int} (h1 : -9223372036854775808 ≤ z) (h2 : z < 9223372036854775808) : wl z = z := zl_t ⟨h1, h2⟩
theorem IR_wr (z : Int) : IR (wr z) := i32_IR _
theorem LR_wl (z : Int) : LR (wl z) := i64_LR _
theorem zi_lt {x y : Int} (hx : IR x) (hy : IR y) : zi x < zi y ↔ x < y := by rw [Int32.lt_iff_toInt_lt, zi_t hx, zi_t hy]
theorem zi_le {x y : Int} (hx : IR x) (hy : IR y) : zi x ≤ zi y ↔ x ≤ y := by rw [Int32.le_iff_toInt_le, zi_t hx, zi_t hy]
theorem zi_eq {x y : Int} (hx : IR x) (hy : IR y) : zi x = zi y ↔ x = y := by rw [← Int32.toInt_inj, zi_t hx, zi_t hy]
theorem IR_0 : IR 0 := ⟨by decide, by decide⟩
theorem zi_cl {z : Int} (h : IR z) : (zi z).toNatClampNeg = z.toNat := by
  rw [← Int32.toNat_toInt, zi_t h]
theorem zi_neg {z : Int} (h : IR z) : (zi z < 0) ↔ z < 0 := zi_lt h IR_0
theorem zi_in {z : Int} {n : Nat} (h : IR z) (h1 : 0 ≤ z) (h2 : z < n) : vp_in (zi z) n := by
  intro q
  rcases q with q | q
  · have := (zi_neg h).mp q
    omega
  · rw [zi_cl h] at q
    omega
theorem zlcmp_e {x y : Int} (hx : LR x) (hy : LR y) : lg_cmp (zl x) (zl y) = zi (zlcmp x y) := by
  unfold lg_cmp zlcmp
  simp only [gt_iff_lt, Int64.lt_iff_toInt_lt, ← Int64.toInt_inj, zl_t hx, zl_t hy]
  by_cases h1 : y < x
  · rw [if_pos h1, if_pos h1]; rfl
  · rw [if_neg h1, if_neg h1]
    by_cases h2 : x = y
    · rw [if_pos h2, if_pos h2]; rfl
    · rw [if_neg h2, if_neg h2]; rfl
theorem zlcmp_IR (x y : Int) : IR (zlcmp x y) := by
  unfold zlcmp
  split
  · exact ⟨by decide, by decide⟩
  · split <;> exact ⟨by decide, by decide⟩
def jn {α β : Type} (x : α) (F : α → β) : β := F x
def lp {σ ρ : Type} (step : σ → Option (σ ⊕ ρ)) : Nat → σ → Option ρ
  | 0, _ => none
  | n + 1, s => (step s).bind (fun q => match q with | .inl s' => lp step n s' | .inr r => some r)
def FU : Nat := 4294967296
def lat (l : List Int) (p : Int) : Int := if 0 ≤ p then l.getD p.toNat (-1) else -1
def upR (S : Sst) (r : Nat) (l : List Int) : Sst := (fun k => if k = r then l else S.1 k, S.2)
def up2 (M : Nat → Nat → Int) (k j : Nat) (v : Int) : Nat → Nat → Int := fun a b => if a = k ∧ b = j then v else M a b
def up2n (M : Nat → Nat → Nat) (k j : Nat) (v : Nat) : Nat → Nat → Nat := fun a b => if a = k ∧ b = j then v else M a b
def upS (S : Sst) (k j : Nat) (v : Int) : Sst := (S.1, up2 S.2 k j v)
def aget (f : Nat → Int) (n : Nat) (z : Int) : Option Int := if 0 ≤ z ∧ z < n then some (f z.toNat) else none
def asetO (O : Smo) (k n : Nat) (z v : Int) : Option Smo := if 0 ≤ z ∧ z < n then some (up2 O k z.toNat v) else none
def asetS (S : Sst) (k n : Nat) (z v : Int) : Option Sst := if 0 ≤ z ∧ z < n then some (upS S k z.toNat v) else none
-- the picture
abbrev EwT : Type := va_G × (ClassId × ClassId × ClassId × ClassId) × Nat × (Nat → Nat)
def zB (E : EwT) : Nat := E.2.2.1
def zX (E : EwT) : Nat → Nat := E.2.2.2
def zad (E : EwT) (k : Nat) : Nat := zB E + k
def zrv (E : EwT) (r : Nat) : Value := if r = 0 then .null else .ref (zad E r)
def zfld (E : EwT) (R : Srf) (M : Smo) (k j : Nat) : Value := if fkd (Kd k) j = 1 then .long (zl (M k j)) else if fkd (Kd k) j = 2 then zrv E (R k j) else .int (zi (M k j))
def zcell (E : EwT) (R : Srf) (M : Smo) (k : Nat) : va_E :=
  if Kd k < 100 then .inr (Kd k, (List.range (nfd (Kd k))).map (zfld E R M k))
  else if Kd k = 102 then .inl (E.2.1.2.1, Ln k, .inr (.inl (fun j => zl (M k j))))
  else .inl (if Kd k = 103 then E.2.1.2.2.1 else E.2.1.1, Ln k, .inl (fun j => zi (M k j)))
def zty (k j : Nat) : Nat := if Kd k < 100 then fkd (Kd k) j else if Kd k = 102 then 1 else if Kd k = 103 then 3 else 0
def zrg (t : Nat) (z : Int) : Prop := if t = 1 then LR z else if t = 3 then BR z else IR z
def zRaw (E : EwT) (n : Nat) (R : Srf) (M : Smo) (H : Heap) : Prop :=
  H.size = zB E + n ∧ (∀ k, k < n → va_at E.1 vwCl (zB E + k, zcell E R M k) H) ∧ (∀ k j, zrg (zty k j) (M k j)) ∧ ∀ k, n ≤ k → ∀ j, M k j = 0 ∧ R k j = 0
def zagr (M : Smo) (S : Sst) (O : Smo) : Prop := ∀ k,
  (Kd k = 6 → M k 1 = (S.1 k).length ∧ (S.1 k).length ≤ Ln (k + 1) ∧ ∀ i, i < (S.1 k).length → M (k + 1) i = (S.1 k).getD i 0) ∧
  (Kd k ≠ 6 → Kd k ≠ 101 → ∀ j, M k j = if k < nC then S.2 k j else O k j)
def zRep (E : EwT) (n : Nat) (R : Srf) (S : Sst) (O : Smo) (H : Heap) : Prop := ∃ M, zRaw E n R M H ∧ zagr M S O
def zA (E : EwT) : Nat → Prop := fun q => zB E ≤ q
theorem zRep.size {E : EwT} {n : Nat} {R : Srf} {S : Sst} {O : Smo} {H : Heap} (h : zRep E n R S O H) : H.size = zB E + n := by
  obtain ⟨M, h1, -⟩ := h
  exact h1.1
/-- what a state's tables and what lies below the two objects must say -/
def zV (E : EwT) (U : State) : Prop :=
  va_K E.1 vwCl [(E.2.1.1, .int), (E.2.1.2.1, .long), (E.2.1.2.2.1, .boolean), (E.2.1.2.2.2, .byte)] U ∧
  vk_R "StampMap$Lexer" 23 str0 (zX E 0) U ∧ vk_R "StampMap$Lexer" 98 str1 (zX E 1) U ∧
  vk_S 2 zLen zByt (zX E) (fun i => zX E (i + 2)) (zA E) U U.heap ∧
  va_Z "java/lang/String" "COMPACT_STRINGS" "Z" (.int 1) (zA E) U U.heap ∧
  ∃ v : Value, v.category = 1 ∧ va_Z "jdk/internal/util/Preconditions" "SIOOBE_FORMATTER" "Ljava/util/function/BiFunction;" v (zA E) U U.heap
theorem zV.call {E : EwT} {s U : State} {locs : List Loc} (h : zV E s) (hW : s.WarmedH U.vm) (hS : va_S (zA E) s.heap U.heap locs) : zV E U := by
  obtain ⟨h1, h2, h3, h4, h5, v, hv, h6⟩ := h
  exact ⟨va_K.moved hW.alike h1, vk_R.warm hW h2, vk_R.warm hW h3, vk_S.kept (vk_S.moved hW.alike h4) hS.2.1, va_Z.kept (va_Z.moved hW.alike h5) hS.2.1, v, hv, va_Z.kept (va_Z.moved hW.alike h6) hS.2.1⟩
theorem zV.blind {E : EwT} {U : State} (g : JFrame) (mk : MethodId) (a : Array Value) (h : zV E U) : zV E (U.calling g mk a) := by
  obtain ⟨h1, h2, h3, h4, h5, v, hv, h6⟩ := h
  exact ⟨va_K.moved (u := U) (U := U.calling g mk a) (Vm.Alike.refl U.vm) h1, vk_R.same rfl h2, vk_R.same rfl h3, vk_S.moved (u := U) (U := U.calling g mk a) (Vm.Alike.refl U.vm) h4, va_Z.moved (u := U) (U := U.calling g mk a) (Vm.Alike.refl U.vm) h5, v, hv, va_Z.moved (u := U) (U := U.calling g mk a) (Vm.Alike.refl U.vm) h6⟩
def zPc (E : EwT) (n : Nat) (R : Srf) (S : Sst) (O : Smo) (av : List Value) : Array Value → State → Prop := fun v U => v = av.toArray ∧ zRep E n R S O U.heap ∧ zV E U
theorem zPc.blind (E : EwT) (n : Nat) (R : Srf) (S : Sst) (O : Smo) (av : List Value) : FrameBlind (zPc E n R S O av) := fun a U g mk h => ⟨h.1, h.2.1, zV.blind g mk a h.2.2⟩
def zQ (E : EwT) (P : Prop) (rv : Option Value) (n : Nat) (R : Srf) (S : Sst) (O : Smo) : Array Value → State → Outcome → State → Prop :=
  fun _ st oc t => (oc = .returned rv ∧ P ∧ zRep E n R S O t.heap) ∧ va_F (zA E) st t
-- the goal predicate
abbrev KxT : Type := Program × Launch × Env × Room × State × MethodId × Array Value × List Frame × Method × Code × (State → Prop)
abbrev KxT.l (K : KxT) : Launch := K.2.1
abbrev KxT.room (K : KxT) : Room := K.2.2.2.1
abbrev KxT.s (K : KxT) : State := K.2.2.2.2.1
abbrev KxT.m (K : KxT) : MethodId := K.2.2.2.2.2.1
abbrev KxT.args (K : KxT) : Array Value := K.2.2.2.2.2.2.1
abbrev KxT.below (K : KxT) : List Frame := K.2.2.2.2.2.2.2.1
abbrev KxT.meth (K : KxT) : Method := K.2.2.2.2.2.2.2.2.1
abbrev KxT.c (K : KxT) : Code := K.2.2.2.2.2.2.2.2.2.1
abbrev KxT.Q (K : KxT) : State → Prop := K.2.2.2.2.2.2.2.2.2.2
def Cx (E : EwT) (K : KxT) (y : MethodName) (cc : ByteArray) (nL : Nat) (rm : Room) (ret : Option FieldType) : Prop :=
  K.1.tables.exec = Jvm.exec ∧ K.c.code = cc ∧ K.c.maxLocals = nL ∧ K.s.vm.findClass y.cls = some K.m.cls ∧ (∀ w ∈ TB, w.before K.args K.s = true) ∧
  zV E K.s ∧ zB E ≤ K.s.heap.size ∧ K.meth.locks = false ∧ K.room = rm ∧ K.meth.sig.returnType = ret ∧ K.meth.name = y.name
def GG {γ : Type} (E : EwT) (K : KxT) (bf : γ) (n : Nat) (R : Srf) (S : Sst) (O : Smo) (cs sl : Nat) (L : List (Nat × Value)) (pc : Nat) (st : List Value) (t : γ) : Prop :=
  t = bf → ∀ (H : Heap) (locs : List Loc) (ls : Array Slot), zRep E n R S O H → va_S (zA E) K.s.heap H locs → lv_has ls K.c.maxLocals L →
    W K.1 K.l K.2.2.1 K.room K.s K.m K.args K.below K.meth K.c H locs cs sl K.Q (F0 K.m pc ls st)
