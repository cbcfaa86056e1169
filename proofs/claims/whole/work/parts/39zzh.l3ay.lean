/-! LEVEL 3, ay: a line's parts -/
section LINE
variable {T : Nat → Int} {nt cn : Nat} {f : Nat → List Int}
theorem semi_ok {S : Sst} {O : Smo} {p : Nat} (h : OKT T nt cn f S O p) : ∃ S' O', f_X5_expect 59 S = some S' ∧ smR O = some O' ∧ Nxt T nt cn f S O p S' O' := by
  obtain ⟨hB, hT⟩ := h
  obtain ⟨v, i, _, hv, hp⟩ := LT_view hT
  have hk := Vw_k hv
  have e59 := hk.2.2.2.2.2.2.1 59 (by decide) (by decide)
  have h2 : O 262 2 = 0 := hB.2.2.2.2.2.1.2.1
  unfold f_X5_expect smR
  dsimp only [jn]
  by_cases e : v = 5 ∧ i = 59
  · have s59 : S.2 53 0 = 59 := e59.2.mpr e
    have o59 : O 262 6 = 59 := e59.1.mpr e
    rw [if_pos s59, if_neg (c := O 262 2 = 0 ∧ ¬ O 262 6 = 59) (fun w => w.2 o59), if_pos h2]
    obtain ⟨p1, p2⟩ := hp (by omega)
    obtain ⟨S', O', p', e1, e2, e3, e4, e5, e6⟩ := next_tok hB p1 p2 hT.1
    rw [e1, e2]
    exact ⟨_, _, rfl, rfl, Or.inr ⟨p', e3, e4⟩, e5, e6⟩
  · have s59 : ¬ S.2 53 0 = 59 := fun w => e (e59.2.mp w)
    have o59 : ¬ O 262 6 = 59 := fun w => e (e59.1.mp w)
    rw [if_neg s59, if_pos (c := O 262 2 = 0 ∧ ¬ O 262 6 = 59) ⟨h2, o59⟩]
    obtain ⟨S', O', e1, e2, e3, e4, e5, _, _⟩ := fail_ok hB hv hT.2.1 (a := 2) (by decide)
    rw [e1, e2, FT_step (FT_0 e3).1, if_neg (FT_0 e3).2]
    exact ⟨_, _, rfl, rfl, Or.inl e3, E53_mono e4 (by simp), FrO_mono e5 (by simp) (by simp)⟩
theorem semi_F {S : Sst} {O : Smo} (h : FT S O) : f_X5_expect 59 S = some S ∧ smR O = some O := by
  obtain ⟨k1, k2⟩ := FT_0 h
  refine ⟨FT_expect k1 _, ?_⟩
  unfold smR
  dsimp only [jn]
  rw [if_neg (c := O 262 2 = 0 ∧ ¬ O 262 6 = 59) (fun w => k2 w.1), if_neg k2]
/-- a line of a word and a number -/
theorem numl {S : Sst} {O : Smo} {p j fa fb ra rb : Nat} {lo hi : Int} (h : OKT T nt cn f S O p) (hv : Vw 3 j cn f S O) (hp : S.2 53 9 = (p : Int) ∧ O 262 4 = (p : Int)) (hj : j < 14) (hra : 10 ≤ ra) (hrb : 10 ≤ rb) (hab : ra ≠ rb) :
    ∃ S' O' : _, (Option.bind (f_X3_step (upS S 55 fa 1)) fun (q1417 : Sst) =>
              jn (f_X5_number lo hi q1417) fun (q1420 : Int × Sst) =>
              jn (upS q1420.2 5 fb q1420.1) fun (S1422 : Sst) =>
              Option.bind (f_X3_step S1422) fun (q1424 : Sst) =>
              some q1424) = some S' ∧ (Option.bind (f_X12_told (W256 j) lo hi (up2 O 262 ra 1)) fun (q6268 : Int × Smo) => jn (up2 q6268.2 262 rb q6268.1) fun (O6270 : Smo) => some O6270) = some O' ∧ S'.1 = S.1 ∧ (∀ k i, k ≠ 53 → ¬ (k = 55 ∧ i = fa) → ¬ (k = 5 ∧ i = fb) → S'.2 k i = S.2 k i) ∧ FrO [] [2, 3, 4, 6, 7, 8, 9, ra, rb] O O' ∧
      (FT S' O' ∨ ∃ (p' : Nat) (x : Int), OKT T nt cn f S' O' p' ∧ Adv nt O' p p' ∧ lo ≤ x ∧ x ≤ hi ∧ S'.2 5 fb = x ∧ O' 262 rb = x ∧ S'.2 55 fa = 1 ∧ O' 262 ra = 1) := by
  have h1 : OKT T nt cn f (upS S 55 fa 1) (up2 O 262 ra 1) p := OKT_G h rfl (fun _ => upS_ne (Or.inl (by decide))) (fun _ => upS_ne (Or.inl (by decide))) (up2_row (by decide)) (up2_row (by decide)) (fun i hi => up2_ne (Or.inr (by omega)))
  have g1 : FrO [] [2, 3, 4, 6, 7, 8, 9, ra, rb] O (up2 O 262 ra 1) := FrO_up (FrO_refl _ _ _) (by simp)
  obtain ⟨S2, O2, p2, e1, e2, e3, e4, e5, e6⟩ := next_tok h1.1 (p := p) (by rw [upS_ne (Or.inl (by decide))]; exact hp.1) (by rw [up2_ne (Or.inr (by omega))]; exact hp.2) h.2.1
  have hwant : f_X12_want (W256 j) (up2 O 262 ra 1) = some O2 := by
    have hv' : Vw 3 j cn f S (up2 O 262 ra 1) := by
      unfold Vw at *
      rw [up2_ne (Or.inr (by omega)), up2_ne (Or.inr (by omega)), up2_ne (Or.inr (by omega))]
      exact hv
    have w1 := (Vw_own hv' hj).1
    unfold f_X12_want
    rw [if_neg (c := 0 < up2 O 262 ra 1 262 2) (by have := h1.1.2.2.2.2.2.1.2.1; omega), w1, if_pos (c := 3 = 3 ∧ j = j) ⟨rfl, rfl⟩, if_neg (show ¬ (1 : Int) = 0 by decide), e2]
    rfl
  obtain ⟨x, y, S3, O3, n1, n2, n3, n4, n5⟩ := number_ok e3 lo hi
  rw [e1]
  dsimp only [Option.bind_some, jn]
  rw [n1]
  dsimp only
  unfold f_X12_told f_X12_toldNumber
  dsimp only [jn]
  rw [hwant]
  dsimp only [Option.bind_some]
  rw [n2]
  dsimp only
  have g2 : FrO [] [2, 3, 4, 6, 7, 8, 9, ra, rb] O O2 := FrO_trans g1 (FrO_mono e6 (by simp) (by simp))
  rcases n3 with z | ⟨rfl, z1, z2, z3, rfl, rfl, z4, z5, z6⟩
  · obtain ⟨k1, k2⟩ := FT_0 z
    have k1' : ¬ (upS S3 5 fb x).2 53 2 = 0 := by rw [upS_ne (Or.inl (by decide))]; exact k1
    rw [FT_step k1', if_neg k2]
    dsimp only [Option.bind_some]
    refine ⟨_, _, rfl, rfl, ?_, fun k i a b c => ?_, FrO_up (FrO_trans g2 (FrO_mono n5 (by simp) (by simp))) (by simp), Or.inl ?_⟩
    · show S3.1 = _
      rw [n4.1, e5.1]
      rfl
    · rw [upS_ne (by omega), n4.2 k i (fun w => a w.1), e5.2 k i (fun w => a w.1), upS_ne (by omega)]
    · obtain ⟨y1, y2, y3, y4, y5⟩ := z
      refine ⟨?_, ?_, ?_, ?_, fun i hi => ?_⟩
      · rw [upS_ne (Or.inl (by decide)), up2_ne (Or.inr (by omega))]; exact y1
      · rw [up2_ne (Or.inr (by omega))]; exact y2
      · rw [upS_ne (Or.inl (by decide)), up2_ne (Or.inr (by omega))]; exact y3
      · rw [upS_ne (Or.inl (by decide))]; exact y4
      · rw [upS_ne (Or.inl (by decide))]; exact y5 i hi
  · have h3 : OKT T nt cn f (upS S3 5 fb x) O3 p2 := OKT_G z4 rfl (fun _ => upS_ne (Or.inl (by decide))) (fun _ => upS_ne (Or.inl (by decide))) rfl rfl (fun _ _ => rfl)
    obtain ⟨S4, O4, p4, m1, m2, m3, m4, m5, m6⟩ := next_tok h3.1 (p := p2) (by rw [upS_ne (Or.inl (by decide))]; exact z5) z6 h3.2.1
    rw [m1, if_pos z4.1.2.2.2.2.2.1.2.1, m2]
    dsimp only [Option.bind_some]
    refine ⟨_, _, rfl, rfl, ?_, fun k i a b c => ?_, FrO_up (FrO_trans g2 (FrO_mono m6 (by simp) (by simp))) (by simp), Or.inr ⟨p4, x, ?_, ?_, z1, z2, ?_, ?_, ?_, ?_⟩⟩
    · rw [m5.1]
      show S3.1 = _
      rw [e5.1]
      rfl
    · rw [m5.2 k i (fun w => a w.1), upS_ne (by omega), e5.2 k i (fun w => a w.1), upS_ne (by omega)]
    · exact OKT_G m3 rfl (fun _ => rfl) (fun _ => rfl) (up2_row (by decide)) (up2_row (by decide)) (fun i hi => up2_ne (Or.inr (by omega)))
    · have := Adv_trans (O1 := O4) e4.1 m4
      exact ⟨this.1, this.2.1, by rw [up2_ne (Or.inr (by omega))]; exact this.2.2⟩
    · rw [m5.2 5 fb (by simp), upS_same]
    · rw [up2_same]
    · rw [m5.2 55 fa (by simp), upS_ne (Or.inl (by decide)), e5.2 55 fa (by simp), upS_same]
    · rw [up2_ne (Or.inr hab), m6.2 ra (by simp; omega), e6.2 ra (by simp; omega), up2_same]
end LINE
