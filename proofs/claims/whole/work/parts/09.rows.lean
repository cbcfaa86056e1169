/-! BASE 2: one row an instruction, over the goal predicate -/
section ROWS
variable {γ : Type} {E : EwT} {K : KxT} {bf : γ} {n : Nat} {R : Srf} {S : Sst} {O : Smo} {cs sl : Nat} {L : List (Nat × Value)} {pc : Nat} {st : List Value} {t : γ}
variable {y : MethodName} {cc : ByteArray} {nL : Nat} {rm : Room} {ret : Option FieldType}
abbrev zst (i : Nat) (v : Value) (L : List (Nat × Value)) : List (Nat × Value) := (i, v) :: L.filter (fun q => !(q.1 == i) && !(q.1 + 1 == i && q.2.category == 2))
abbrev zst2 (i : Nat) (v : Value) (L : List (Nat × Value)) : List (Nat × Value) := (i, v) :: L.filter (fun q => !(q.1 == i) && (!(q.1 == i + 1) && !(q.1 + 1 == i && q.2.category == 2)))
theorem r_iconst {k v : Int} (C : Cx E K y cc nL rm ret) (d : decode cc pc = .ok (.iconst k, 1)) (hv : Int32.ofInt k = zi v) (g : GG E K bf n R S O cs sl L (pc + 1) (.int (zi v) :: st) t) : GG E K bf n R S O cs sl L pc st t :=
  fun e H locs ls hR hS hl => lv_iconst C.1 C.2.1 d hv (g e H locs ls hR hS hl)
theorem r_bipush {k v : Int} (C : Cx E K y cc nL rm ret) (d : decode cc pc = .ok (.bipush k, 2)) (hv : (Int8.ofInt k).toInt32 = zi v) (g : GG E K bf n R S O cs sl L (pc + 2) (.int (zi v) :: st) t) : GG E K bf n R S O cs sl L pc st t :=
  fun e H locs ls hR hS hl => lv_bipush C.1 C.2.1 d hv (g e H locs ls hR hS hl)
theorem r_sipush {k v : Int} (C : Cx E K y cc nL rm ret) (d : decode cc pc = .ok (.sipush k, 3)) (hv : (Int16.ofInt k).toInt32 = zi v) (g : GG E K bf n R S O cs sl L (pc + 3) (.int (zi v) :: st) t) : GG E K bf n R S O cs sl L pc st t :=
  fun e H locs ls hR hS hl => lv_sipush C.1 C.2.1 d hv (g e H locs ls hR hS hl)
theorem r_lconst {k : Fin 2} {v : Int} (C : Cx E K y cc nL rm ret) (d : decode cc pc = .ok (.lconst k, 1)) (hv : Int64.ofNat (k : Nat) = zl v) (g : GG E K bf n R S O cs sl L (pc + 1) (.long (zl v) :: st) t) : GG E K bf n R S O cs sl L pc st t :=
  fun e H locs ls hR hS hl => lv_lconst C.1 C.2.1 d hv (g e H locs ls hR hS hl)
theorem r_ldc {index : Nat} {v : Int} {w : Int32} (C : Cx E K y cc nL rm ret) (q : Cond.constant y.cls index w ∈ TB) (d : decode cc pc = .ok (.ldc index, 2)) (hv : w = zi v) (g : GG E K bf n R S O cs sl L (pc + 2) (.int (zi v) :: st) t) : GG E K bf n R S O cs sl L pc st t :=
  fun e H locs ls hR hS hl => by
    subst hv
    exact lv_ldc C.1 C.2.1 C.2.2.2.1 (C.2.2.2.2.1 _ q) d (g e H locs ls hR hS hl)
theorem r_ldcw {index : Nat} {v : Int} {w : Int32} (C : Cx E K y cc nL rm ret) (q : Cond.constant y.cls index w ∈ TB) (d : decode cc pc = .ok (.ldc_w index, 3)) (hv : w = zi v) (g : GG E K bf n R S O cs sl L (pc + 3) (.int (zi v) :: st) t) : GG E K bf n R S O cs sl L pc st t :=
  fun e H locs ls hR hS hl => by
    subst hv
    exact lv_ldcw C.1 C.2.1 C.2.2.2.1 (C.2.2.2.2.1 _ q) d (g e H locs ls hR hS hl)
theorem r_ldc2 {index : Nat} {v : Int} {w : Int64} (C : Cx E K y cc nL rm ret) (q : Cond.constantLong y.cls index w ∈ TB) (d : decode cc pc = .ok (.ldc2_w index, 3)) (hv : w = zl v) (g : GG E K bf n R S O cs sl L (pc + 3) (.long (zl v) :: st) t) : GG E K bf n R S O cs sl L pc st t :=
  fun e H locs ls hR hS hl => by
    subst hv
    exact lv_ldc2 C.1 C.2.1 C.2.2.2.1 (C.2.2.2.2.1 _ q) d (g e H locs ls hR hS hl)
theorem r_iload_n {k : Fin 4} {i j : Nat} {z : Int} (C : Cx E K y cc nL rm ret) (d : decode cc pc = .ok (.iload_n k, 1)) (hi : (k : Nat) = i) (hL : L[j]? = some (i, .int (zi z))) (g : GG E K bf n R S O cs sl L (pc + 1) (.int (zi z) :: st) t) : GG E K bf n R S O cs sl L pc st t :=
  fun e H locs ls hR hS hl => lv_iload_n C.1 C.2.1 d hi (lv_at hl j hL) (g e H locs ls hR hS hl)
theorem r_iload {i j : Nat} {z : Int} (C : Cx E K y cc nL rm ret) (d : decode cc pc = .ok (.iload i, 2)) (hL : L[j]? = some (i, .int (zi z))) (g : GG E K bf n R S O cs sl L (pc + 2) (.int (zi z) :: st) t) : GG E K bf n R S O cs sl L pc st t :=
  fun e H locs ls hR hS hl => lv_iload C.1 C.2.1 d (lv_at hl j hL) (g e H locs ls hR hS hl)
theorem r_lload_n {k : Fin 4} {i j : Nat} {z : Int} (C : Cx E K y cc nL rm ret) (d : decode cc pc = .ok (.lload_n k, 1)) (hi : (k : Nat) = i) (hL : L[j]? = some (i, .long (zl z))) (g : GG E K bf n R S O cs sl L (pc + 1) (.long (zl z) :: st) t) : GG E K bf n R S O cs sl L pc st t :=
  fun e H locs ls hR hS hl => lv_lload_n C.1 C.2.1 d hi (lv_at hl j hL) (g e H locs ls hR hS hl)
theorem r_aload_n {k : Fin 4} {i j q : Nat} (C : Cx E K y cc nL rm ret) (d : decode cc pc = .ok (.aload_n k, 1)) (hi : (k : Nat) = i) (hL : L[j]? = some (i, .ref q)) (g : GG E K bf n R S O cs sl L (pc + 1) (.ref q :: st) t) : GG E K bf n R S O cs sl L pc st t :=
  fun e H locs ls hR hS hl => lv_aload_n C.1 C.2.1 d hi (lv_at hl j hL) (g e H locs ls hR hS hl)
theorem r_aload {i j q : Nat} (C : Cx E K y cc nL rm ret) (d : decode cc pc = .ok (.aload i, 2)) (hL : L[j]? = some (i, .ref q)) (g : GG E K bf n R S O cs sl L (pc + 2) (.ref q :: st) t) : GG E K bf n R S O cs sl L pc st t :=
  fun e H locs ls hR hS hl => lv_aload C.1 C.2.1 d (lv_at hl j hL) (g e H locs ls hR hS hl)
theorem r_istore_n {k : Fin 4} {i : Nat} {z : Int} {L' : List (Nat × Value)} (C : Cx E K y cc nL rm ret) (d : decode cc pc = .ok (.istore_n k, 1)) (hi : (k : Nat) = i) (hn : i < nL) (hL : zst i (.int (zi z)) L = L') (g : GG E K bf n R S O cs sl L' (pc + 1) st t) : GG E K bf n R S O cs sl L pc (.int (zi z) :: st) t :=
  fun e H locs ls hR hS hl => lv_istore_n C.1 C.2.1 d hi hl (by rw [C.2.2.1]; exact hn) hL (fun ls' hl' => g e H locs ls' hR hS hl')
theorem r_istore {i : Nat} {z : Int} {L' : List (Nat × Value)} (C : Cx E K y cc nL rm ret) (d : decode cc pc = .ok (.istore i, 2)) (hn : i < nL) (hL : zst i (.int (zi z)) L = L') (g : GG E K bf n R S O cs sl L' (pc + 2) st t) : GG E K bf n R S O cs sl L pc (.int (zi z) :: st) t :=
  fun e H locs ls hR hS hl => lv_istore C.1 C.2.1 d hl (by rw [C.2.2.1]; exact hn) hL (fun ls' hl' => g e H locs ls' hR hS hl')
theorem r_lstore_n {k : Fin 4} {i : Nat} {z : Int} {L' : List (Nat × Value)} (C : Cx E K y cc nL rm ret) (d : decode cc pc = .ok (.lstore_n k, 1)) (hi : (k : Nat) = i) (hn : i + 1 < nL) (hL : zst2 i (.long (zl z)) L = L') (g : GG E K bf n R S O cs sl L' (pc + 1) st t) : GG E K bf n R S O cs sl L pc (.long (zl z) :: st) t :=
  fun e H locs ls hR hS hl => lv_lstore_n C.1 C.2.1 d hi hl (by rw [C.2.2.1]; exact hn) hL (fun ls' hl' => g e H locs ls' hR hS hl')
theorem r_astore_n {k : Fin 4} {i q : Nat} {L' : List (Nat × Value)} (C : Cx E K y cc nL rm ret) (d : decode cc pc = .ok (.astore_n k, 1)) (hi : (k : Nat) = i) (hn : i < nL) (hL : zst i (.ref q) L = L') (g : GG E K bf n R S O cs sl L' (pc + 1) st t) : GG E K bf n R S O cs sl L pc (.ref q :: st) t :=
  fun e H locs ls hR hS hl => lv_astore_n C.1 C.2.1 d hi hl (by rw [C.2.2.1]; exact hn) hL (fun ls' hl' => g e H locs ls' hR hS hl')
theorem r_iinc {i j : Nat} {z k : Int} {L' : List (Nat × Value)} (C : Cx E K y cc nL rm ret) (d : decode cc pc = .ok (.iinc i k, 3)) (hj : L[j]? = some (i, .int (zi z))) (hn : i < nL) (hL : zst i (.int (zi (wr (z + k)))) L = L') (g : GG E K bf n R S O cs sl L' (pc + 3) st t) : GG E K bf n R S O cs sl L pc st t :=
  fun e H locs ls hR hS hl => lv_iinc C.1 C.2.1 d hl hj (by rw [wr, zi_of]; exact (Int32.ofInt_add z k).symm) (by rw [C.2.2.1]; exact hn) hL (fun ls' hl' => g e H locs ls' hR hS hl')
theorem r_L {L' : List (Nat × Value)} (ks : List Nat) (h : lv_pick L ks = L') (g : GG E K bf n R S O cs sl L' pc st t) : GG E K bf n R S O cs sl L pc st t :=
  fun e H locs ls hR hS hl => g e H locs ls hR hS (lv_sub hl ks h)
-- arithmetic
theorem r_iadd {x z : Int} (C : Cx E K y cc nL rm ret) (d : decode cc pc = .ok (.iadd, 1)) (g : GG E K bf n R S O cs sl L (pc + 1) (.int (zi (wr (x + z))) :: st) t) : GG E K bf n R S O cs sl L pc (.int (zi z) :: .int (zi x) :: st) t :=
  fun e H locs ls hR hS hl => lv_iadd C.1 C.2.1 d (by rw [show zi x + zi z = zi (wr (x + z)) by rw [wr, zi_of]; exact (Int32.ofInt_add x z).symm]; exact g e H locs ls hR hS hl)
theorem r_isub {x z : Int} (C : Cx E K y cc nL rm ret) (d : decode cc pc = .ok (.isub, 1)) (g : GG E K bf n R S O cs sl L (pc + 1) (.int (zi (wr (x - z))) :: st) t) : GG E K bf n R S O cs sl L pc (.int (zi z) :: .int (zi x) :: st) t :=
  fun e H locs ls hR hS hl => lv_isub C.1 C.2.1 d (by rw [show zi x - zi z = zi (wr (x - z)) by rw [wr, zi_of]; exact (Int32.ofInt_sub x z).symm]; exact g e H locs ls hR hS hl)
theorem r_imul {x z : Int} (C : Cx E K y cc nL rm ret) (d : decode cc pc = .ok (.imul, 1)) (g : GG E K bf n R S O cs sl L (pc + 1) (.int (zi (wr (x * z))) :: st) t) : GG E K bf n R S O cs sl L pc (.int (zi z) :: .int (zi x) :: st) t :=
  fun e H locs ls hR hS hl => lv_imul C.1 C.2.1 d (by rw [show zi x * zi z = zi (wr (x * z)) by rw [wr, zi_of]; exact (Int32.ofInt_mul x z).symm]; exact g e H locs ls hR hS hl)
theorem r_ineg {x : Int} (C : Cx E K y cc nL rm ret) (d : decode cc pc = .ok (.ineg, 1)) (g : GG E K bf n R S O cs sl L (pc + 1) (.int (zi (wr (-x))) :: st) t) : GG E K bf n R S O cs sl L pc (.int (zi x) :: st) t :=
  fun e H locs ls hR hS hl => lv_ineg C.1 C.2.1 d (by rw [show -zi x = zi (wr (-x)) by rw [wr, zi_of]; exact (Int32.ofInt_neg x).symm]; exact g e H locs ls hR hS hl)
theorem r_iand {x z : Int} (C : Cx E K y cc nL rm ret) (d : decode cc pc = .ok (.iand, 1)) (g : GG E K bf n R S O cs sl L (pc + 1) (.int (zi (zand x z)) :: st) t) : GG E K bf n R S O cs sl L pc (.int (zi z) :: .int (zi x) :: st) t :=
  fun e H locs ls hR hS hl => lv_iand C.1 C.2.1 d (by rw [show zi x &&& zi z = zi (zand x z) from (zi_of _).symm]; exact g e H locs ls hR hS hl)
theorem r_ior {x z : Int} (C : Cx E K y cc nL rm ret) (d : decode cc pc = .ok (.ior, 1)) (g : GG E K bf n R S O cs sl L (pc + 1) (.int (zi (zor x z)) :: st) t) : GG E K bf n R S O cs sl L pc (.int (zi z) :: .int (zi x) :: st) t :=
  fun e H locs ls hR hS hl => lv_ior C.1 C.2.1 d (by rw [show zi x ||| zi z = zi (zor x z) from (zi_of _).symm]; exact g e H locs ls hR hS hl)
theorem r_ixor {x z : Int} (C : Cx E K y cc nL rm ret) (d : decode cc pc = .ok (.ixor, 1)) (g : GG E K bf n R S O cs sl L (pc + 1) (.int (zi (zxor x z)) :: st) t) : GG E K bf n R S O cs sl L pc (.int (zi z) :: .int (zi x) :: st) t :=
  fun e H locs ls hR hS hl => lv_ixor C.1 C.2.1 d (by rw [show zi x ^^^ zi z = zi (zxor x z) from (zi_of _).symm]; exact g e H locs ls hR hS hl)
theorem r_ishl {x z : Int} (C : Cx E K y cc nL rm ret) (d : decode cc pc = .ok (.ishl, 1)) (g : GG E K bf n R S O cs sl L (pc + 1) (.int (zi (zshl x z)) :: st) t) : GG E K bf n R S O cs sl L pc (.int (zi z) :: .int (zi x) :: st) t :=
  fun e H locs ls hR hS hl => lv_ishl C.1 C.2.1 d (by rw [show zi x <<< (zi z &&& 31) = zi (zshl x z) from (zi_of _).symm]; exact g e H locs ls hR hS hl)
theorem r_ishr {x z : Int} (C : Cx E K y cc nL rm ret) (d : decode cc pc = .ok (.ishr, 1)) (g : GG E K bf n R S O cs sl L (pc + 1) (.int (zi (zshr x z)) :: st) t) : GG E K bf n R S O cs sl L pc (.int (zi z) :: .int (zi x) :: st) t :=
  fun e H locs ls hR hS hl => lv_ishr C.1 C.2.1 d (by rw [show zi x >>> (zi z &&& 31) = zi (zshr x z) from (zi_of _).symm]; exact g e H locs ls hR hS hl)
theorem r_iushr {x z : Int} (C : Cx E K y cc nL rm ret) (d : decode cc pc = .ok (.iushr, 1)) (g : GG E K bf n R S O cs sl L (pc + 1) (.int (zi (zushr x z)) :: st) t) : GG E K bf n R S O cs sl L pc (.int (zi z) :: .int (zi x) :: st) t :=
  fun e H locs ls hR hS hl => lv_iushr C.1 C.2.1 d (zi_of _).symm (g e H locs ls hR hS hl)
theorem r_i2c {x : Int} (C : Cx E K y cc nL rm ret) (d : decode cc pc = .ok (.i2c, 1)) (g : GG E K bf n R S O cs sl L (pc + 1) (.int (zi (zi2c x)) :: st) t) : GG E K bf n R S O cs sl L pc (.int (zi x) :: st) t :=
  fun e H locs ls hR hS hl => lv_i2c C.1 C.2.1 d (zi_of _).symm (g e H locs ls hR hS hl)
theorem r_i2l {x : Int} (C : Cx E K y cc nL rm ret) (hx : IR x) (d : decode cc pc = .ok (.i2l, 1)) (g : GG E K bf n R S O cs sl L (pc + 1) (.long (zl x) :: st) t) : GG E K bf n R S O cs sl L pc (.int (zi x) :: st) t :=
  fun e H locs ls hR hS hl => lv_i2l C.1 C.2.1 d (by rw [← Int64.toInt_inj, Int32.toInt_toInt64, zi_t hx, zl_t ⟨by have := hx.1; omega, by have := hx.2; omega⟩]) (g e H locs ls hR hS hl)
theorem r_ladd {x z : Int} (C : Cx E K y cc nL rm ret) (d : decode cc pc = .ok (.ladd, 1)) (g : GG E K bf n R S O cs sl L (pc + 1) (.long (zl (wl (x + z))) :: st) t) : GG E K bf n R S O cs sl L pc (.long (zl z) :: .long (zl x) :: st) t :=
  fun e H locs ls hR hS hl => lv_ladd C.1 C.2.1 d (by rw [show zl x + zl z = zl (wl (x + z)) by rw [wl, zl_of]; exact (Int64.ofInt_add x z).symm]; exact g e H locs ls hR hS hl)
theorem r_lmul {x z : Int} (C : Cx E K y cc nL rm ret) (d : decode cc pc = .ok (.lmul, 1)) (g : GG E K bf n R S O cs sl L (pc + 1) (.long (zl (wl (x * z))) :: st) t) : GG E K bf n R S O cs sl L pc (.long (zl z) :: .long (zl x) :: st) t :=
  fun e H locs ls hR hS hl => lv_lmul C.1 C.2.1 d (by rw [show zl x * zl z = zl (wl (x * z)) by rw [wl, zl_of]; exact (Int64.ofInt_mul x z).symm]; exact g e H locs ls hR hS hl)
theorem r_lor {x z : Int} (C : Cx E K y cc nL rm ret) (d : decode cc pc = .ok (.lor, 1)) (g : GG E K bf n R S O cs sl L (pc + 1) (.long (zl (zlor x z)) :: st) t) : GG E K bf n R S O cs sl L pc (.long (zl z) :: .long (zl x) :: st) t :=
  fun e H locs ls hR hS hl => lv_lor C.1 C.2.1 d (by rw [show zl x ||| zl z = zl (zlor x z) from (zl_of _).symm]; exact g e H locs ls hR hS hl)
theorem r_lshl {x z : Int} (C : Cx E K y cc nL rm ret) (d : decode cc pc = .ok (.lshl, 1)) (g : GG E K bf n R S O cs sl L (pc + 1) (.long (zl (zlshl x z)) :: st) t) : GG E K bf n R S O cs sl L pc (.int (zi z) :: .long (zl x) :: st) t :=
  fun e H locs ls hR hS hl => lv_lshl C.1 C.2.1 d (zl_of _).symm (g e H locs ls hR hS hl)
theorem r_lcmp {x z : Int} (C : Cx E K y cc nL rm ret) (hx : LR x) (hz : LR z) (d : decode cc pc = .ok (.lcmp, 1)) (g : GG E K bf n R S O cs sl L (pc + 1) (.int (zi (zlcmp x z)) :: st) t) : GG E K bf n R S O cs sl L pc (.long (zl z) :: .long (zl x) :: st) t :=
  fun e H locs ls hR hS hl => W.lcmp C.1 C.2.1 d (by rw [zlcmp_e hx hz]; exact g e H locs ls hR hS hl)
theorem r_idiv {x z : Int} {F : Int → Option γ} (C : Cx E K y cc nL rm ret) (hz : IR z) (d : decode cc pc = .ok (.idiv, 1)) (g : ∀ q, IR q → GG E K (some bf) n R S O cs sl L (pc + 1) (.int (zi q) :: st) (F q)) : GG E K (some bf) n R S O cs sl L pc (.int (zi z) :: .int (zi x) :: st) (Option.bind (if z = 0 then none else some (zdiv x z)) F) :=
  fun e H locs ls hR hS hl => by
    by_cases h : z = 0
    · rw [if_pos h] at e
      cases e
    · rw [if_neg h] at e
      refine lv_idiv C.1 C.2.1 d (fun q => h ((zi_eq hz IR_0).mp q)) ?_
      rw [show zi x / zi z = zi (zdiv x z) from (zi_of _).symm]
      exact g _ (i32_IR _) e H locs ls hR hS hl
theorem r_irem {x z : Int} {F : Int → Option γ} (C : Cx E K y cc nL rm ret) (hz : IR z) (d : decode cc pc = .ok (.irem, 1)) (g : ∀ q, IR q → GG E K (some bf) n R S O cs sl L (pc + 1) (.int (zi q) :: st) (F q)) : GG E K (some bf) n R S O cs sl L pc (.int (zi z) :: .int (zi x) :: st) (Option.bind (if z = 0 then none else some (zrem x z)) F) :=
  fun e H locs ls hR hS hl => by
    by_cases h : z = 0
    · rw [if_pos h] at e
      cases e
    · rw [if_neg h] at e
      refine lv_irem C.1 C.2.1 d (fun q => h ((zi_eq hz IR_0).mp q)) ?_
      rw [show zi x - zi x / zi z * zi z = zi (zrem x z) from (zi_of _).symm]
      exact g _ (i32_IR _) e H locs ls hR hS hl
theorem r_idivk {x z : Int} (C : Cx E K y cc nL rm ret) (hz : IR z) (h : ¬ z = 0) (d : decode cc pc = .ok (.idiv, 1)) (g : GG E K bf n R S O cs sl L (pc + 1) (.int (zi (zdiv x z)) :: st) t) : GG E K bf n R S O cs sl L pc (.int (zi z) :: .int (zi x) :: st) t :=
  fun e H locs ls hR hS hl => by
    refine lv_idiv C.1 C.2.1 d (fun q => h ((zi_eq hz IR_0).mp q)) ?_
    rw [show zi x / zi z = zi (zdiv x z) from (zi_of _).symm]
    exact g e H locs ls hR hS hl
theorem r_iremk {x z : Int} (C : Cx E K y cc nL rm ret) (hz : IR z) (h : ¬ z = 0) (d : decode cc pc = .ok (.irem, 1)) (g : GG E K bf n R S O cs sl L (pc + 1) (.int (zi (zrem x z)) :: st) t) : GG E K bf n R S O cs sl L pc (.int (zi z) :: .int (zi x) :: st) t :=
  fun e H locs ls hR hS hl => by
    refine lv_irem C.1 C.2.1 d (fun q => h ((zi_eq hz IR_0).mp q)) ?_
    rw [show zi x - zi x / zi z * zi z = zi (zrem x z) from (zi_of _).symm]
    exact g e H locs ls hR hS hl
-- stack
theorem r_dup {v : Value} (C : Cx E K y cc nL rm ret) (d : decode cc pc = .ok (.dup, 1)) (hv : v.category = 1) (g : GG E K bf n R S O cs sl L (pc + 1) (v :: v :: st) t) : GG E K bf n R S O cs sl L pc (v :: st) t :=
  fun e H locs ls hR hS hl => lv_dup C.1 C.2.1 d hv (g e H locs ls hR hS hl)
theorem r_dup2 {v w : Value} (C : Cx E K y cc nL rm ret) (d : decode cc pc = .ok (.dup2, 1)) (hv : v.category = 1) (hw : w.category = 1) (g : GG E K bf n R S O cs sl L (pc + 1) (v :: w :: v :: w :: st) t) : GG E K bf n R S O cs sl L pc (v :: w :: st) t :=
  fun e H locs ls hR hS hl => lv_dup2_11 C.1 C.2.1 d hv hw (g e H locs ls hR hS hl)
theorem r_pop {v : Value} (C : Cx E K y cc nL rm ret) (d : decode cc pc = .ok (.pop, 1)) (hv : v.category = 1) (g : GG E K bf n R S O cs sl L (pc + 1) st t) : GG E K bf n R S O cs sl L pc (v :: st) t :=
  fun e H locs ls hR hS hl => lv_pop C.1 C.2.1 d hv (g e H locs ls hR hS hl)
-- jumps: the two goals are for the jump and for going on
theorem r_goto {off : Int} {tgt : Nat} (C : Cx E K y cc nL rm ret) (d : decode cc pc = .ok (.goto off, 3)) (ht : (pc : Int) + off = (tgt : Int)) (g : GG E K bf n R S O cs sl L tgt st t) : GG E K bf n R S O cs sl L pc st t :=
  fun e H locs ls hR hS hl => lv_goto C.1 C.2.1 d ht (g e H locs ls hR hS hl)
theorem r_if_eq {x off : Int} {tgt : Nat} (C : Cx E K y cc nL rm ret) (hx : IR x) (d : decode cc pc = .ok (.ifCond .eq off, 3)) (ht : (pc : Int) + off = (tgt : Int)) (gt : x = 0 → GG E K bf n R S O cs sl L tgt st t) (gf : ¬ x = 0 → GG E K bf n R S O cs sl L (pc + 3) st t) : GG E K bf n R S O cs sl L pc (.int (zi x) :: st) t :=
  fun e H locs ls hR hS hl => lv_if_eq C.1 C.2.1 d ht (fun q => gt ((zi_eq hx IR_0).mp q) e H locs ls hR hS hl) (fun q => gf (fun w => q ((zi_eq hx IR_0).mpr w)) e H locs ls hR hS hl)
theorem r_if_ne {x off : Int} {tgt : Nat} (C : Cx E K y cc nL rm ret) (hx : IR x) (d : decode cc pc = .ok (.ifCond .ne off, 3)) (ht : (pc : Int) + off = (tgt : Int)) (gt : ¬ x = 0 → GG E K bf n R S O cs sl L tgt st t) (gf : x = 0 → GG E K bf n R S O cs sl L (pc + 3) st t) : GG E K bf n R S O cs sl L pc (.int (zi x) :: st) t :=
  fun e H locs ls hR hS hl => lv_if_ne C.1 C.2.1 d ht (fun q => gt (fun w => q ((zi_eq hx IR_0).mpr w)) e H locs ls hR hS hl) (fun q => gf ((zi_eq hx IR_0).mp q) e H locs ls hR hS hl)
theorem r_if_lt {x off : Int} {tgt : Nat} (C : Cx E K y cc nL rm ret) (hx : IR x) (d : decode cc pc = .ok (.ifCond .lt off, 3)) (ht : (pc : Int) + off = (tgt : Int)) (gt : x < 0 → GG E K bf n R S O cs sl L tgt st t) (gf : ¬ x < 0 → GG E K bf n R S O cs sl L (pc + 3) st t) : GG E K bf n R S O cs sl L pc (.int (zi x) :: st) t :=
  fun e H locs ls hR hS hl => lv_if_lt C.1 C.2.1 d ht (fun q => gt ((zi_lt hx IR_0).mp q) e H locs ls hR hS hl) (fun q => gf (fun w => q ((zi_lt hx IR_0).mpr w)) e H locs ls hR hS hl)
theorem r_if_ge {x off : Int} {tgt : Nat} (C : Cx E K y cc nL rm ret) (hx : IR x) (d : decode cc pc = .ok (.ifCond .ge off, 3)) (ht : (pc : Int) + off = (tgt : Int)) (gt : ¬ x < 0 → GG E K bf n R S O cs sl L tgt st t) (gf : x < 0 → GG E K bf n R S O cs sl L (pc + 3) st t) : GG E K bf n R S O cs sl L pc (.int (zi x) :: st) t :=
  fun e H locs ls hR hS hl => lv_if_ge C.1 C.2.1 d ht (fun q => gt (by have := (zi_le IR_0 hx).mp q; omega) e H locs ls hR hS hl) (fun q => gf (Int.not_le.mp (fun w => q ((zi_le IR_0 hx).mpr w))) e H locs ls hR hS hl)
theorem r_if_gt {x off : Int} {tgt : Nat} (C : Cx E K y cc nL rm ret) (hx : IR x) (d : decode cc pc = .ok (.ifCond .gt off, 3)) (ht : (pc : Int) + off = (tgt : Int)) (gt : 0 < x → GG E K bf n R S O cs sl L tgt st t) (gf : ¬ 0 < x → GG E K bf n R S O cs sl L (pc + 3) st t) : GG E K bf n R S O cs sl L pc (.int (zi x) :: st) t :=
  fun e H locs ls hR hS hl => lv_if_gt C.1 C.2.1 d ht (fun q => gt ((zi_lt IR_0 hx).mp q) e H locs ls hR hS hl) (fun q => gf (fun w => q ((zi_lt IR_0 hx).mpr w)) e H locs ls hR hS hl)
theorem r_if_le {x off : Int} {tgt : Nat} (C : Cx E K y cc nL rm ret) (hx : IR x) (d : decode cc pc = .ok (.ifCond .le off, 3)) (ht : (pc : Int) + off = (tgt : Int)) (gt : ¬ 0 < x → GG E K bf n R S O cs sl L tgt st t) (gf : 0 < x → GG E K bf n R S O cs sl L (pc + 3) st t) : GG E K bf n R S O cs sl L pc (.int (zi x) :: st) t :=
  fun e H locs ls hR hS hl => lv_if_le C.1 C.2.1 d ht (fun q => gt (by have := (zi_le hx IR_0).mp q; omega) e H locs ls hR hS hl) (fun q => gf (Int.not_le.mp (fun w => q ((zi_le hx IR_0).mpr w))) e H locs ls hR hS hl)
theorem r_icmp_eq {x z off : Int} {tgt : Nat} (C : Cx E K y cc nL rm ret) (hx : IR x) (hz : IR z) (d : decode cc pc = .ok (.if_icmp .eq off, 3)) (ht : (pc : Int) + off = (tgt : Int)) (gt : x = z → GG E K bf n R S O cs sl L tgt st t) (gf : ¬ x = z → GG E K bf n R S O cs sl L (pc + 3) st t) : GG E K bf n R S O cs sl L pc (.int (zi z) :: .int (zi x) :: st) t :=
  fun e H locs ls hR hS hl => lv_icmp_eq C.1 C.2.1 d ht (fun q => gt ((zi_eq hx hz).mp q) e H locs ls hR hS hl) (fun q => gf (fun w => q ((zi_eq hx hz).mpr w)) e H locs ls hR hS hl)
theorem r_icmp_ne {x z off : Int} {tgt : Nat} (C : Cx E K y cc nL rm ret) (hx : IR x) (hz : IR z) (d : decode cc pc = .ok (.if_icmp .ne off, 3)) (ht : (pc : Int) + off = (tgt : Int)) (gt : ¬ x = z → GG E K bf n R S O cs sl L tgt st t) (gf : x = z → GG E K bf n R S O cs sl L (pc + 3) st t) : GG E K bf n R S O cs sl L pc (.int (zi z) :: .int (zi x) :: st) t :=
  fun e H locs ls hR hS hl => lv_icmp_ne C.1 C.2.1 d ht (fun q => gt (fun w => q ((zi_eq hx hz).mpr w)) e H locs ls hR hS hl) (fun q => gf ((zi_eq hx hz).mp q) e H locs ls hR hS hl)
theorem r_icmp_lt {x z off : Int} {tgt : Nat} (C : Cx E K y cc nL rm ret) (hx : IR x) (hz : IR z) (d : decode cc pc = .ok (.if_icmp .lt off, 3)) (ht : (pc : Int) + off = (tgt : Int)) (gt : x < z → GG E K bf n R S O cs sl L tgt st t) (gf : ¬ x < z → GG E K bf n R S O cs sl L (pc + 3) st t) : GG E K bf n R S O cs sl L pc (.int (zi z) :: .int (zi x) :: st) t :=
  fun e H locs ls hR hS hl => lv_icmp_lt C.1 C.2.1 d ht (fun q => gt ((zi_lt hx hz).mp q) e H locs ls hR hS hl) (fun q => gf (fun w => q ((zi_lt hx hz).mpr w)) e H locs ls hR hS hl)
theorem r_icmp_ge {x z off : Int} {tgt : Nat} (C : Cx E K y cc nL rm ret) (hx : IR x) (hz : IR z) (d : decode cc pc = .ok (.if_icmp .ge off, 3)) (ht : (pc : Int) + off = (tgt : Int)) (gt : ¬ x < z → GG E K bf n R S O cs sl L tgt st t) (gf : x < z → GG E K bf n R S O cs sl L (pc + 3) st t) : GG E K bf n R S O cs sl L pc (.int (zi z) :: .int (zi x) :: st) t :=
  fun e H locs ls hR hS hl => lv_icmp_ge C.1 C.2.1 d ht (fun q => gt (by have := (zi_le hz hx).mp q; omega) e H locs ls hR hS hl) (fun q => gf (Int.not_le.mp (fun w => q ((zi_le hz hx).mpr w))) e H locs ls hR hS hl)
theorem r_icmp_gt {x z off : Int} {tgt : Nat} (C : Cx E K y cc nL rm ret) (hx : IR x) (hz : IR z) (d : decode cc pc = .ok (.if_icmp .gt off, 3)) (ht : (pc : Int) + off = (tgt : Int)) (gt : z < x → GG E K bf n R S O cs sl L tgt st t) (gf : ¬ z < x → GG E K bf n R S O cs sl L (pc + 3) st t) : GG E K bf n R S O cs sl L pc (.int (zi z) :: .int (zi x) :: st) t :=
  fun e H locs ls hR hS hl => lv_icmp_gt C.1 C.2.1 d ht (fun q => gt ((zi_lt hz hx).mp q) e H locs ls hR hS hl) (fun q => gf (fun w => q ((zi_lt hz hx).mpr w)) e H locs ls hR hS hl)
theorem r_icmp_le {x z off : Int} {tgt : Nat} (C : Cx E K y cc nL rm ret) (hx : IR x) (hz : IR z) (d : decode cc pc = .ok (.if_icmp .le off, 3)) (ht : (pc : Int) + off = (tgt : Int)) (gt : ¬ z < x → GG E K bf n R S O cs sl L tgt st t) (gf : z < x → GG E K bf n R S O cs sl L (pc + 3) st t) : GG E K bf n R S O cs sl L pc (.int (zi z) :: .int (zi x) :: st) t :=
  fun e H locs ls hR hS hl => lv_icmp_le C.1 C.2.1 d ht (fun q => gt (by have := (zi_le hx hz).mp q; omega) e H locs ls hR hS hl) (fun q => gf (Int.not_le.mp (fun w => q ((zi_le hx hz).mpr w))) e H locs ls hR hS hl)
end ROWS
