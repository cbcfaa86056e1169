/-! the two String constants, and what is asked of them -/
def zstr (i : Nat) : List Int := if i = 0 then [115, 101, 103, 32, 97, 116, 32, 116, 111, 32, 119, 101, 105, 103, 104, 115, 32, 115, 108, 111, 116, 115, 32, 100, 114, 97, 119, 32, 111, 114, 32, 97, 110, 100, 32, 110, 111, 116, 32, 110, 117, 109, 98, 101, 114, 32, 97, 99, 114, 111, 115, 115, 32, 119, 105, 100, 116, 104, 32, 114, 105, 115, 101, 32, 108, 117, 99, 107, 32] else [59, 40, 41, 60, 62, 61, 43, 45, 42, 47, 37]
def f_J0_length_8abf5 (i : Nat) : Int := ((zstr i).length : Int)
def f_J0_charAt_5068e (i : Nat) (a1 : Int) : Option Int := if 0 ≤ a1 ∧ a1 < (zstr i).length then some ((zstr i).getD a1.toNat 0) else none
def f_J0_indexOf_0f7a4 (i : Nat) (a1 : Int) : Int := match (zstr i).idxOf? a1 with
  | some k => (k : Int)
  | none => -1
theorem m_J0_length_8abf5 {l : Launch} {E : EwT} {n : Nat} {R : Srf} {S : Sst} {O : Smo} {i : Nat} (hi : i < 2) {q : Int} (hq : f_J0_length_8abf5 i = q) : MetG l E yJ0_length_8abf5 cJ0_length_8abf5 1 (some .int) 1 20 0 0 n R S O [.ref (zX E i)] (IR q) (some (.int (zi q))) n R S O := sorry
theorem m_J0_charAt_5068e {l : Launch} {E : EwT} {n : Nat} {R : Srf} {S : Sst} {O : Smo} {i : Nat} (hi : i < 2) {a1 : Int} (h1 : IR a1) {q : Int} (hq : f_J0_charAt_5068e i a1 = some q) : MetG l E yJ0_charAt_5068e cJ0_charAt_5068e 2 (some .char) 4 120 0 0 n R S O [.ref (zX E i), .int (zi a1)] (IR q) (some (.int (zi q))) n R S O := sorry
theorem m_J0_indexOf_0f7a4 {l : Launch} {E : EwT} {n : Nat} {R : Srf} {S : Sst} {O : Smo} {i : Nat} (hi : i < 2) {a1 : Int} (h1 : IR a1) {q : Int} (hq : f_J0_indexOf_0f7a4 i a1 = q) : MetG l E yJ0_indexOf_0f7a4 cJ0_indexOf_0f7a4 2 (some .int) 5 150 0 0 n R S O [.ref (zX E i), .int (zi a1)] (IR q) (some (.int (zi q))) n R S O := sorry
