/-! LEVEL 3, al: the two readers of a formula, step for step -/
def cM (s776 : Int × Int × Sst) : Option ((Int × Int × Sst) ⊕ (Sst ⊕ Sst)) :=
    if (1600 < s776.2.1 ∨ s776.1 = 3) then
      (some (Sum.inr (Sum.inr s776.2.2)))
    else
      (Option.bind (
        if s776.1 = 2 then
          (Option.bind (f_X2_readSign 24 s776.2.2) fun (q793 : Int × Sst) =>
          some (q793.1, q793.2))
        else
          (Option.bind (f_X2_readUnit 24 s776.1 s776.2.2) fun (q796 : Int × Sst) =>
          some (q796.1, q796.2))) fun (q787 : Int × Sst) =>
      if f_X3_failed q787.2 = 0 then
        (some (Sum.inl (q787.1, wr (s776.2.1 + 1), q787.2)))
      else
        (some (Sum.inr (Sum.inl q787.2))))
def uM (s5394 : Int × Smo) : Option ((Int × Smo) ⊕ Smo) :=
    if (s5394.1 = 0 ∨ ¬ s5394.2 262 2 = 0) then
      (some (Sum.inr s5394.2))
    else
      (jk (fun (q5405 : Smo) =>
        if q5405 262 6 = 40 then
          (jn (
            if (f_X12_isFull q5405 = 0 ∧ ¬ 6 < q5405 262 22) then
              (q5405)
            else
              (jn (f_X12_wrong 2 q5405) fun (q5438 : Smo) =>
              q5438)) fun (q5430 : Smo) =>
          jn (f_X12_countUnit q5430) fun (q5443 : Smo) =>
          Option.bind (f_X12_openUp 20 q5443) fun (q5446 : Smo) =>
          some (Sum.inl (s5394.1, q5446)))
        else
          (some (Sum.inl (0, q5405)))) fun k5407 =>
      if f_X12_isWord 7237492 s5394.2 = 0 then
        (k5407 s5394.2)
      else
        (Option.bind (f_X12_mayNot s5394.2) fun (q5411 : Int) =>
        if q5411 = 0 then
          (k5407 s5394.2)
        else
          (jn (
            if 6 < s5394.2 262 22 then
              (jn (f_X12_wrong 2 s5394.2) fun (q5421 : Smo) =>
              q5421)
            else
              (s5394.2)) fun (q5415 : Smo) =>
          Option.bind (f_X12_openUp 21 q5415) fun (q5424 : Smo) =>
          some (Sum.inl (s5394.1, q5424)))))
def uT (r5450 : Smo) : Option Smo :=
  if 0 < r5450 262 2 then
    (some r5450)
  else
    (jn (f_X12_asked r5450) fun (v5455 : Int) =>
    jn (
      if ((r5450 262 6 = 2 ∨ ¬ v5455 < 0) ∧ f_X12_isFull r5450 = 0) then
        (r5450)
      else
        (jn (f_X12_wrong 2 r5450) fun (q5467 : Smo) =>
        q5467)) fun (q5459 : Smo) =>
    if 0 < q5459 262 2 then
      (some q5459)
    else
      (jn (f_X12_countUnit q5459) fun (q5476 : Smo) =>
      jn (
        if v5455 < 0 then
          (0)
        else
          (1)) fun (q5478 : Int) =>
      jn (
        if v5455 < 0 then
          (q5476 262 8)
        else
          (v5455)) fun (q5483 : Int) =>
      Option.bind (f_X12_add q5478 q5483 q5476) fun (q5490 : Smo) =>
      Option.bind (f_X12_token q5490) fun (q5493 : Smo) =>
      some q5493))
def fM (s5564 : Int × Smo) : Option ((Int × Smo) ⊕ Smo) :=
    if (s5564.1 = 0 ∨ ¬ s5564.2 262 2 = 0) then
      (some (Sum.inr s5564.2))
    else
      (jn (f_X12_sign s5564.2) fun (v5575 : Int) =>
      Option.bind (
        if s5564.2 262 6 = 41 then
          (Option.bind (f_X12_hasBracket s5564.2) fun (q5584 : Int) =>
          if q5584 = 0 then
            (jk (fun (q5587 : Smo) =>
              some (0, q5587)) fun k5589 =>
            if v5575 = 0 then
              (k5589 s5564.2)
            else
              (jk (fun (q5593 : Unit) =>
                Option.bind (f_X12_close (f_X12_tight v5575) s5564.2) fun (q5604 : Smo) =>
                Option.bind (asetO q5604 268 (Ln 268) (q5604 262 18) v5575) fun (O5607 : Smo) =>
                jn (up2 O5607 262 18 (wr ((O5607 262 18) + 1))) fun (O5609 : Smo) =>
                Option.bind (f_X12_token O5609) fun (q5611 : Smo) =>
                Option.bind (f_X12_unit q5611) fun (q5614 : Smo) =>
                some (s5564.1, q5614)) fun k5595 =>
              if f_X12_tight v5575 = 4 then
                (Option.bind (f_X12_hasRelation s5564.2) fun (q5599 : Int) =>
                if q5599 = 0 then
                  (k5595 ())
                else
                  (k5589 s5564.2))
              else
                (k5595 ())))
          else
            (Option.bind (f_X12_close 0 s5564.2) fun (q5617 : Smo) =>
            jn (up2 q5617 262 18 (wr ((q5617 262 18) - 1))) fun (O5620 : Smo) =>
            jn (up2 O5620 262 22 (wr ((O5620 262 22) - 1))) fun (O5622 : Smo) =>
            Option.bind (f_X12_token O5622) fun (q5624 : Smo) =>
            some (s5564.1, q5624)))
        else
          (jk (fun (q5626 : Smo) =>
            some (0, q5626)) fun k5628 =>
          if v5575 = 0 then
            (k5628 s5564.2)
          else
            (jk (fun (q5632 : Unit) =>
              Option.bind (f_X12_close (f_X12_tight v5575) s5564.2) fun (q5643 : Smo) =>
              Option.bind (asetO q5643 268 (Ln 268) (q5643 262 18) v5575) fun (O5646 : Smo) =>
              jn (up2 O5646 262 18 (wr ((O5646 262 18) + 1))) fun (O5648 : Smo) =>
              Option.bind (f_X12_token O5648) fun (q5650 : Smo) =>
              Option.bind (f_X12_unit q5650) fun (q5653 : Smo) =>
              some (s5564.1, q5653)) fun k5634 =>
            if f_X12_tight v5575 = 4 then
              (Option.bind (f_X12_hasRelation s5564.2) fun (q5638 : Int) =>
              if q5638 = 0 then
                (k5634 ())
              else
                (k5628 s5564.2))
            else
              (k5634 ())))) fun (q5578 : Int × Smo) =>
      some (Sum.inl (q5578.1, q5578.2)))
def fT (r5657 : Smo) : Option Smo :=
  Option.bind (
    if r5657 262 2 = 0 then
      (Option.bind (f_X12_hasBracket r5657) fun (q5666 : Int) =>
      if q5666 = 0 then
        (some r5657)
      else
        (jn (f_X12_wrong 2 r5657) fun (q5670 : Smo) =>
        some q5670))
    else
      (some r5657)) fun (q5660 : Smo) =>
  if q5660 262 2 = 0 then
    (Option.bind (f_X12_close 0 q5660) fun (q5675 : Smo) =>
    some q5675)
  else
    (some q5660)
theorem unit_eq (O : Smo) : f_X12_unit O = Option.bind (lp uM FU (1, O)) uT := rfl
theorem formula_eq (O : Smo) : f_X12_formula O = Option.bind (f_X12_token O) (fun q => Option.bind (f_X12_unit (up2 (up2 (up2 (up2 (up2 q 262 23 1) 262 16 0) 262 18 0) 262 22 0) 262 21 0)) (fun q2 => Option.bind (lp fM FU (1, q2)) fT)) := rfl
theorem readF_eq (S : Sst) : f_X2_readFormula 24 S = Option.bind (lp cM FU (0, 0, upS (f_X6_clear 57 (f_X1_clear 24 S)) 56 2 0)) (fun z => Sum.elim (fun (r : Sst) => some r) (fun (r : Sst) => some r) z) := rfl
/-- a loop that ends after at most n steps -/
def Rn {σ ρ : Type} (f : σ → Option (σ ⊕ ρ)) (n : Nat) (s : σ) (r : ρ) : Prop := ∀ u, n ≤ u → lp f u s = some r
theorem Rn_stop {σ ρ : Type} {f : σ → Option (σ ⊕ ρ)} {s : σ} {r : ρ} (h : f s = some (.inr r)) : Rn f 1 s r := fun u hu => by
  obtain ⟨v, rfl⟩ : ∃ v, u = v + 1 := ⟨u - 1, by omega⟩
  rw [lp, h]
  rfl
theorem Rn_go {σ ρ : Type} {f : σ → Option (σ ⊕ ρ)} {s s' : σ} {n : Nat} {r : ρ} (h : f s = some (.inl s')) (h2 : Rn f n s' r) : Rn f (n + 1) s r := fun u hu => by
  obtain ⟨v, rfl⟩ : ∃ v, u = v + 1 := ⟨u - 1, by omega⟩
  rw [lp, h]
  exact h2 v (by omega)
theorem Rn_mono {σ ρ : Type} {f : σ → Option (σ ⊕ ρ)} {s : σ} {n m : Nat} {r : ρ} (h : Rn f n s r) (hm : n ≤ m) : Rn f m s r := fun u hu => h u (by omega)
theorem cM_unit {S S' : Sst} {q x : Int} {k : Nat} (hk : k ≤ 1600) (hq : q = 0 ∨ q = 1) (h : f_X2_readUnit 24 q S = some (x, S')) : (S'.2 53 2 = 0 → cM (q, (k : Int), S) = some (.inl (x, ((k + 1 : Nat) : Int), S'))) ∧ (¬ S'.2 53 2 = 0 → cM (q, (k : Int), S) = some (.inr (.inl S'))) := by
  unfold cM f_X3_failed
  rw [if_neg (c := 1600 < (k : Int) ∨ q = 3) (by omega), if_neg (c := q = 2) (by omega), h]
  dsimp only [Option.bind_some]
  refine ⟨fun e => ?_, fun e => ?_⟩
  · rw [if_pos e, if_pos rfl, wr_id (by omega) (by omega)]
    rfl
  · rw [if_neg e, if_neg (by decide)]
theorem cM_sign {S S' : Sst} {x : Int} {k : Nat} (hk : k ≤ 1600) (h : f_X2_readSign 24 S = some (x, S')) : (S'.2 53 2 = 0 → cM (2, (k : Int), S) = some (.inl (x, ((k + 1 : Nat) : Int), S'))) ∧ (¬ S'.2 53 2 = 0 → cM (2, (k : Int), S) = some (.inr (.inl S'))) := by
  unfold cM f_X3_failed
  rw [if_neg (c := 1600 < (k : Int) ∨ (2 : Int) = 3) (by omega), if_pos rfl, h]
  dsimp only [Option.bind_some]
  refine ⟨fun e => ?_, fun e => ?_⟩
  · rw [if_pos e, if_pos rfl, wr_id (by omega) (by omega)]
    rfl
  · rw [if_neg e, if_neg (by decide)]
theorem cM_end {S : Sst} {k : Nat} : cM (3, (k : Int), S) = some (.inr (.inr S)) := by
  unfold cM
  rw [if_pos (Or.inr rfl)]
theorem uM_end0 {O : Smo} : uM (0, O) = some (.inr O) := by
  unfold uM
  rw [if_pos (Or.inl rfl)]
theorem uM_endF {O : Smo} {b : Int} (h : ¬ O 262 2 = 0) : uM (b, O) = some (.inr O) := by
  unfold uM
  rw [if_pos (Or.inr h)]
theorem fM_end0 {O : Smo} : fM (0, O) = some (.inr O) := by
  unfold fM
  rw [if_pos (Or.inl rfl)]
theorem fM_endF {O : Smo} {b : Int} (h : ¬ O 262 2 = 0) : fM (b, O) = some (.inr O) := by
  unfold fM
  rw [if_pos (Or.inr h)]
theorem uT_F {O : Smo} (h : 0 < O 262 2) : uT O = some O := by
  unfold uT
  rw [if_pos h]
