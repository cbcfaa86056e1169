/-! LEVEL 3, af: words as numbers -/
theorem zl_of' (x : Int64) : zl x.toInt = x := Int64.ofInt_toInt x
theorem zlor_n {x c : Nat} (hx : x < 36028797018963968) (hc : c < 256) : zlor (zlshl (x : Int) 8) (c : Int) = ((x * 256 + c : Nat) : Int) := by
  have e8 : ((zi 8).toInt64 &&& 63) = (8 : Int64) := by decide
  have b1 : (zl (x : Int)).toBitVec = BitVec.ofNat 64 x := by
    unfold zl
    rw [Int64.toBitVec_ofInt, BitVec.ofInt_natCast]
  have b2 : (zl (c : Int)).toBitVec = BitVec.ofNat 64 c := by
    unfold zl
    rw [Int64.toBitVec_ofInt, BitVec.ofInt_natCast]
  unfold zlor zlshl
  rw [e8, zl_of']
  have e : (zl (x : Int) <<< (8 : Int64) ||| zl (c : Int)).toBitVec = BitVec.ofNat 64 (x * 256 + c) := by
    rw [Int64.toBitVec_or, Int64.toBitVec_shiftLeft, b1, b2]
    apply BitVec.eq_of_toNat_eq
    have h : ((8 : Int64).toBitVec.smod 64) = 8#64 := by decide
    rw [h]
    simp only [BitVec.toNat_or, BitVec.toNat_ofNat, BitVec.shiftLeft_eq', BitVec.toNat_shiftLeft]
    have q := Nat.two_pow_add_eq_or_of_lt (i := 8) (b := c) (by simpa using hc) x
    have e3 : (x % 2 ^ 64) <<< (8 % 2 ^ 64) % 2 ^ 64 = 2 ^ 8 * x := by
      rw [Nat.mod_eq_of_lt (show x < 2 ^ 64 by omega), show 8 % 2 ^ 64 = 8 by rfl, Nat.shiftLeft_eq]
      omega
    rw [e3, Nat.mod_eq_of_lt (show c < 2 ^ 64 by omega), ← q]
    omega
  show (zl (x : Int) <<< (8 : Int64) ||| zl (c : Int)).toBitVec.toInt = _
  rw [e, BitVec.toInt_eq_toNat_bmod, BitVec.toNat_ofNat, Nat.mod_eq_of_lt (by omega), Int.bmod_def]
  split <;> omega

def d32 : List Int → Int
  | [] => 0
  | c :: l => d32 l * 32 + (c - 96)
def d256 : List Int → Int
  | [] => 0
  | c :: l => d256 l * 256 + c
def Ltr (l : List Int) : Prop := ∀ c ∈ l, 97 ≤ c ∧ c ≤ 122
theorem Ltr_c {c : Int} {l : List Int} (h : Ltr (c :: l)) : (97 ≤ c ∧ c ≤ 122) ∧ Ltr l := ⟨h c List.mem_cons_self, fun x hx => h x (List.mem_cons_of_mem _ hx)⟩
theorem d32_nn : ∀ l, Ltr l → 0 ≤ d32 l
  | [], _ => Int.le_refl 0
  | c :: l, h => by
    have a := d32_nn l (Ltr_c h).2
    have b := (Ltr_c h).1
    show 0 ≤ d32 l * 32 + (c - 96)
    omega
theorem d256_nn : ∀ l, Ltr l → 0 ≤ d256 l
  | [], _ => Int.le_refl 0
  | c :: l, h => by
    have a := d256_nn l (Ltr_c h).2
    have b := (Ltr_c h).1
    show 0 ≤ d256 l * 256 + c
    omega
theorem d32_inj : ∀ l l', Ltr l → Ltr l' → d32 l = d32 l' → l = l'
  | [], [], _, _, _ => rfl
  | [], c :: l, _, h, e => by
    have a := d32_nn l (Ltr_c h).2
    have b := (Ltr_c h).1
    have e' : (0 : Int) = d32 l * 32 + (c - 96) := e
    omega
  | c :: l, [], h, _, e => by
    have a := d32_nn l (Ltr_c h).2
    have b := (Ltr_c h).1
    have e' : d32 l * 32 + (c - 96) = (0 : Int) := e
    omega
  | c :: l, c' :: l', h, h', e => by
    have b := (Ltr_c h).1
    have b' := (Ltr_c h').1
    have e' : d32 l * 32 + (c - 96) = d32 l' * 32 + (c' - 96) := e
    have q := d32_inj l l' (Ltr_c h).2 (Ltr_c h').2 (by omega)
    rw [q]
    rw [q] at e'
    rw [show c = c' by omega]
theorem d256_inj : ∀ l l', Ltr l → Ltr l' → d256 l = d256 l' → l = l'
  | [], [], _, _, _ => rfl
  | [], c :: l, _, h, e => by
    have a := d256_nn l (Ltr_c h).2
    have b := (Ltr_c h).1
    have e' : (0 : Int) = d256 l * 256 + c := e
    omega
  | c :: l, [], h, _, e => by
    have a := d256_nn l (Ltr_c h).2
    have b := (Ltr_c h).1
    have e' : d256 l * 256 + c = (0 : Int) := e
    omega
  | c :: l, c' :: l', h, h', e => by
    have b := (Ltr_c h).1
    have b' := (Ltr_c h').1
    have e' : d256 l * 256 + c = d256 l' * 256 + c' := e
    have q := d256_inj l l' (Ltr_c h).2 (Ltr_c h').2 (by omega)
    rw [q]
    rw [q] at e'
    rw [show c = c' by omega]
theorem d32_bd : ∀ l, Ltr l → d32 l < (32 : Int) ^ l.length
  | [], _ => by decide
  | c :: l, h => by
    have a := d32_bd l (Ltr_c h).2
    have b := (Ltr_c h).1
    show d32 l * 32 + (c - 96) < (32 : Int) ^ (l.length + 1)
    rw [Int.pow_succ]
    omega
theorem d256_bd : ∀ l, Ltr l → 2 * d256 l < (256 : Int) ^ l.length
  | [], _ => by decide
  | c :: l, h => by
    have a := d256_bd l (Ltr_c h).2
    have b := (Ltr_c h).1
    show 2 * (d256 l * 256 + c) < (256 : Int) ^ (l.length + 1)
    rw [Int.pow_succ]
    omega
theorem p32_8 : ∀ n, n ≤ 8 → (32 : Int) ^ n ≤ 1099511627776 := by decide
theorem p256_6 : ∀ n, n ≤ 7 → (256 : Int) ^ n ≤ 72057594037927936 := by decide
def OW (i : Nat) : List Int := [[103, 101, 115], [116, 97], [111, 116], [115, 104, 103, 105, 101, 119], [115, 116, 111, 108, 115], [119, 97, 114, 100], [114, 111], [100, 110, 97], [116, 111, 110], [114, 101, 98, 109, 117, 110], [115, 115, 111, 114, 99, 97], [104, 116, 100, 105, 119], [101, 115, 105, 114], [107, 99, 117, 108]].getD i []
def W256 (i : Nat) : Int := [7562599, 24948, 29807, 131277443786867, 495740482675, 1685217655, 28530, 6385252, 7237492, 121450625394034, 107079749563251, 512869299304, 1919513445, 1819632491].getD i 0
theorem OW_f : ∀ i, i < 14 → Ltr (OW i) ∧ d32 (OW i) = W32 i ∧ d256 (OW i) = W256 i ∧ (OW i).length ≤ 8 ∧ OW i ≠ [] := by unfold Ltr; decide +kernel
theorem OW_inj : ∀ i, i < 14 → ∀ j, j < 14 → OW i = OW j → i = j := by decide +kernel
