/-! the two String constants, and what is asked of them -/
def zstr (i : Nat) : List Int := if i = 0 then [115, 101, 103, 32, 97, 116, 32, 116, 111, 32, 119, 101, 105, 103, 104, 115, 32, 115, 108, 111, 116, 115, 32, 100, 114, 97, 119, 32, 111, 114, 32, 97, 110, 100, 32, 110, 111, 116, 32, 110, 117, 109, 98, 101, 114, 32, 97, 99, 114, 111, 115, 115, 32, 119, 105, 100, 116, 104, 32, 114, 105, 115, 101, 32, 108, 117, 99, 107, 32] else [59, 40, 41, 60, 62, 61, 43, 45, 42, 47, 37]
def f_J0_length_8abf5 (i : Nat) : Int := ((zstr i).length : Int)
def f_J0_charAt_5068e (i : Nat) (a1 : Int) : Option Int := if 0 ≤ a1 ∧ a1 < (zstr i).length then some ((zstr i).getD a1.toNat 0) else none
def sfind : List Int → Int → Int → Int
  | [], _, _ => -1
  | x :: l, c, k => if x = c then k else sfind l c (k + 1)
def f_J0_indexOf_0f7a4 (i : Nat) (a1 : Int) : Int := sfind (zstr i) a1 0
theorem r_jkb {α β γ : Type} {E : EwT} {K : KxT} {bf : Option γ} {n : Nat} {R : Srf} {S : Sst} {O : Smo} {cs sl : Nat} {L : List (Nat × Value)} {pc : Nat} {st : List Value} {F : α → Option β} {G : (α → Option β) → Option β} {Fk : β → Option γ}
    (Pq : α → Prop) (Sq : α → Sst) (Oq : α → Smo) (Lq : α → List (Nat × Value)) (pj : Nat) (sq : α → List Value) (hJ : ∀ q, Pq q → GG E K bf n R (Sq q) (Oq q) cs sl (Lq q) pj (sq q) (Option.bind (F q) Fk))
    (hb : ∀ F' : α → Option β, (∀ q, Pq q → GG E K bf n R (Sq q) (Oq q) cs sl (Lq q) pj (sq q) (Option.bind (F' q) Fk)) → GG E K bf n R S O cs sl L pc st (Option.bind (G F') Fk)) : GG E K bf n R S O cs sl L pc st (Option.bind (jk F G) Fk) := hb F hJ
theorem r_cutS {γ : Type} {E : EwT} {K : KxT} {bf : γ} {n : Nat} {R : Srf} {S : Sst} {O : Smo} {cs sl : Nat} {L : List (Nat × Value)} {pc : Nat} {st : List Value} {t : γ} (pT : Nat) (st' : List Value) (gT : GG E K bf n R S O cs sl L pT st' t) (hb : GG E K bf n R S O cs sl L pT st' t → GG E K bf n R S O cs sl L pc st t) : GG E K bf n R S O cs sl L pc st t := hb gT
