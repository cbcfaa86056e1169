/-! LEVEL 3, as: a segment is read -/
section RSEG
variable {T : Nat → Int} {nt cn : Nat} {f : Nat → List Int}
def SO (T : Nat → Int) (nt cn : Nat) (f : Nat → List Int) (p0 : Nat) (S : Sst) (O : Smo) : Prop := FT S O ∨ ∃ p, OKT T nt cn f S O p ∧ Adv nt O p0 p
theorem Adv_trans {O1 O2 : Smo} {p0 p1 p2 : Nat} (h1 : p0 ≤ p1) (h2 : Adv nt O2 p1 p2) : Adv nt O2 p0 p2 := ⟨Nat.le_trans h1 h2.1, h2.2.1, h2.2.2.imp id (fun w => by omega)⟩
theorem SO_nxt {p0 p : Nat} {S' : Sst} {O O' : Smo} (ha : Adv nt O p0 p) (h : FT S' O' ∨ ∃ p', OKT T nt cn f S' O' p' ∧ Adv nt O' p p') : SO T nt cn f p0 S' O' := by
  rcases h with h | ⟨p', a, b⟩
  · exact Or.inl h
  · exact Or.inr ⟨p', a, Adv_trans (O1 := O) ha.1 b⟩
theorem SO_fr {p0 : Nat} {S : Sst} {O O' : Smo} (h : SO T nt cn f p0 S O) (o1 : O' 263 = O 263) (o2 : O' 271 = O 271) (o3 : ∀ j, j ≤ 9 → O' 262 j = O 262 j) : SO T nt cn f p0 S O' := by
  rcases h with h | ⟨p, a, b⟩
  · exact Or.inl (FT_tr h (o3 2 (by decide)) (o3 3 (by decide)))
  · refine Or.inr ⟨p, OKT_G a rfl (fun _ => rfl) (fun _ => rfl) o1 o2 o3, ?_⟩
    obtain ⟨x, y, z⟩ := b
    exact ⟨x, y, by rw [o3 6 (by decide)]; exact z⟩
theorem want_any {p0 : Nat} {S : Sst} {O : Smo} (h : SO T nt cn f p0 S O) {j : Nat} (hj : j < 14) : ∃ S' O', f_X5_expect (100 + (j : Int)) S = some S' ∧ f_X12_want (W256 j) O = some O' ∧ SO T nt cn f p0 S' O' ∧ E53 [0, 1, 2, 3, 7, 8, 9] S S' ∧ FrO [] [2, 3, 4, 6, 7, 8, 9] O O' ∧ (FT S O → FT S' O') := by
  rcases h with h | ⟨p, a, b⟩
  · obtain ⟨k1, k2⟩ := FT_0 h
    refine ⟨S, O, FT_expect k1 _, ?_, Or.inl h, E53_refl _ _, FrO_refl _ _ _, id⟩
    unfold f_X12_want
    rw [if_pos h.2.1]
  · obtain ⟨S', O', e1, e2, e3, e4, e5⟩ := want_ok a hj
    exact ⟨S', O', e1, e2, SO_nxt (O := O) b e3, e4, e5, fun w => absurd a.1.2.2.2.2.2.1.2.1 (FT_0 w).2⟩
theorem told_any {p0 : Nat} {S : Sst} {O : Smo} (h : SO T nt cn f p0 S O) (a b b' : Int) (hab : ¬ FT S O → a = b') (c : Int) : ∃ x y S1 S' O', f_X5_number a c S = (x, S1) ∧ f_X3_step S1 = some S' ∧ f_X12_toldNumber b' c O = some (y, O') ∧ SO T nt cn f p0 S' O' ∧ (FT S' O' ∨ (x = y ∧ a ≤ x ∧ x ≤ c ∧ 0 ≤ x)) ∧ E53 [0, 1, 2, 3, 7, 8, 9] S S' ∧ FrO [] [2, 3, 4, 6, 7, 8, 9] O O' ∧ (FT S O → FT S' O') := by
  rcases h with h | ⟨p, ha, hb⟩
  · obtain ⟨k1, k2⟩ := FT_0 h
    refine ⟨S.2 53 1, 0, S, S, O, FT_number k1 _ _, FT_step k1, ?_, Or.inl h, Or.inl h, E53_refl _ _, FrO_refl _ _ _, id⟩
    unfold f_X12_toldNumber f_X12_numberHere
    dsimp only [jn]
    rw [if_pos h.2.1]
    dsimp only
    rw [if_neg k2]
    rfl
  · have hn : ¬ FT S O := fun w => (FT_0 w).2 ha.1.2.2.2.2.2.1.2.1
    obtain ⟨x, y, S1, S', O', e1, e2, e3, e4, e5, e6, e7⟩ := told_ok ha a c
    rw [hab hn] at e1 e4 ⊢
    rw [hab hn] at e3
    exact ⟨x, y, S1, S', O', e1, e2, e3, SO_nxt (O := O) hb e5, e4.imp id (fun w => ⟨w.1, w.2.1, w.2.2.1, w.2.2.2.1⟩), e6, e7, fun w => absurd w hn⟩
theorem number_any {p0 : Nat} {S : Sst} {O : Smo} (h : SO T nt cn f p0 S O) (a c : Int) : ∃ x y S' O', f_X5_number a c S = (x, S') ∧ f_X12_numberHere a c O = (y, O') ∧ (FT S' O' ∨ (x = y ∧ a ≤ x ∧ x ≤ c ∧ 0 ≤ x ∧ S' = S ∧ O' = O ∧ ∃ p, OKT T nt cn f S O p ∧ Adv nt O p0 p ∧ S.2 53 9 = (p : Int) ∧ O 262 4 = (p : Int))) ∧ E53 [2, 3] S S' ∧ FrO [] [2, 3] O O' := by
  rcases h with h | ⟨p, ha, hb⟩
  · obtain ⟨k1, k2⟩ := FT_0 h
    refine ⟨S.2 53 1, 0, S, O, FT_number k1 _ _, ?_, Or.inl h, E53_refl _ _, FrO_refl _ _ _⟩
    unfold f_X12_numberHere
    dsimp only [jn]
    rw [if_pos h.2.1]
  · obtain ⟨x, y, S', O', e1, e2, e3, e4, e5⟩ := number_ok ha a c
    refine ⟨x, y, S', O', e1, e2, e3.imp id (fun ⟨w1, w2, w3, w4, w5, w6, w7, w8, w9⟩ => ⟨w1, w2, w3, w4, w5, w6, p, w7, hb, w8, w9⟩), e4, e5⟩
/-- the name's token -/
theorem isName_v {v i : Nat} {S : Sst} {O : Smo} (hv : Vw v i cn f S O) : f_X12_isName O = if v = 4 then 1 else 0 := by
  have hk := Vw_k hv
  have ho : ∀ j, j < 14 → (zlcmp (O 262 9) (W256 j) = 0 ↔ O 262 9 = W256 j) := fun j _ => zlcmp_0
  have e : ((∃ j, j < 14 ∧ O 262 9 = W256 j) → f_X12_isOwn O = 1) ∧ (¬ (∃ j, j < 14 ∧ O 262 9 = W256 j) → f_X12_isOwn O = 0) := by
    have key : (((((((((((((zlcmp (O 262 9) 7562599 = 0 ∨ zlcmp (O 262 9) 24948 = 0) ∨ zlcmp (O 262 9) 29807 = 0) ∨ zlcmp (O 262 9) 131277443786867 = 0) ∨ zlcmp (O 262 9) 495740482675 = 0) ∨ zlcmp (O 262 9) 1685217655 = 0) ∨ zlcmp (O 262 9) 121450625394034 = 0) ∨ zlcmp (O 262 9) 107079749563251 = 0) ∨ zlcmp (O 262 9) 512869299304 = 0) ∨ zlcmp (O 262 9) 1919513445 = 0) ∨ zlcmp (O 262 9) 1819632491 = 0) ∨ zlcmp (O 262 9) 6385252 = 0) ∨ zlcmp (O 262 9) 28530 = 0) ∨ zlcmp (O 262 9) 7237492 = 0) ↔ ∃ j, j < 14 ∧ O 262 9 = W256 j := by
      have g0 := ho 0 (by decide)
      have g1 := ho 1 (by decide)
      have g2 := ho 2 (by decide)
      have g3 := ho 3 (by decide)
      have g4 := ho 4 (by decide)
      have g5 := ho 5 (by decide)
      have g6 := ho 6 (by decide)
      have g7 := ho 7 (by decide)
      have g8 := ho 8 (by decide)
      have g9 := ho 9 (by decide)
      have g10 := ho 10 (by decide)
      have g11 := ho 11 (by decide)
      have g12 := ho 12 (by decide)
      have g13 := ho 13 (by decide)
      constructor
      · intro w
        rcases w with ((((((((((((w | w) | w) | w) | w) | w) | w) | w) | w) | w) | w) | w) | w) | w
        · exact ⟨0, by decide, g0.mp w⟩
        · exact ⟨1, by decide, g1.mp w⟩
        · exact ⟨2, by decide, g2.mp w⟩
        · exact ⟨3, by decide, g3.mp w⟩
        · exact ⟨4, by decide, g4.mp w⟩
        · exact ⟨5, by decide, g5.mp w⟩
        · exact ⟨9, by decide, g9.mp w⟩
        · exact ⟨10, by decide, g10.mp w⟩
        · exact ⟨11, by decide, g11.mp w⟩
        · exact ⟨12, by decide, g12.mp w⟩
        · exact ⟨13, by decide, g13.mp w⟩
        · exact ⟨7, by decide, g7.mp w⟩
        · exact ⟨6, by decide, g6.mp w⟩
        · exact ⟨8, by decide, g8.mp w⟩
      · rintro ⟨j, hj, w⟩
        obtain rfl | rfl | rfl | rfl | rfl | rfl | rfl | rfl | rfl | rfl | rfl | rfl | rfl | rfl : j = 0 ∨ j = 1 ∨ j = 2 ∨ j = 3 ∨ j = 4 ∨ j = 5 ∨ j = 6 ∨ j = 7 ∨ j = 8 ∨ j = 9 ∨ j = 10 ∨ j = 11 ∨ j = 12 ∨ j = 13 := by omega
        · have := g0.mpr w; exact Or.inl (Or.inl (Or.inl (Or.inl (Or.inl (Or.inl (Or.inl (Or.inl (Or.inl (Or.inl (Or.inl (Or.inl (Or.inl this))))))))))))
        · have := g1.mpr w; exact Or.inl (Or.inl (Or.inl (Or.inl (Or.inl (Or.inl (Or.inl (Or.inl (Or.inl (Or.inl (Or.inl (Or.inl (Or.inr this))))))))))))
        · have := g2.mpr w; exact Or.inl (Or.inl (Or.inl (Or.inl (Or.inl (Or.inl (Or.inl (Or.inl (Or.inl (Or.inl (Or.inl (Or.inr this)))))))))))
        · have := g3.mpr w; exact Or.inl (Or.inl (Or.inl (Or.inl (Or.inl (Or.inl (Or.inl (Or.inl (Or.inl (Or.inl (Or.inr this))))))))))
        · have := g4.mpr w; exact Or.inl (Or.inl (Or.inl (Or.inl (Or.inl (Or.inl (Or.inl (Or.inl (Or.inl (Or.inr this)))))))))
        · have := g5.mpr w; exact Or.inl (Or.inl (Or.inl (Or.inl (Or.inl (Or.inl (Or.inl (Or.inl (Or.inr this))))))))
        · have := g6.mpr w; exact Or.inl (Or.inr this)
        · have := g7.mpr w; exact Or.inl (Or.inl (Or.inr this))
        · have := g8.mpr w; exact Or.inr this
        · have := g9.mpr w; exact Or.inl (Or.inl (Or.inl (Or.inl (Or.inl (Or.inl (Or.inl (Or.inr this)))))))
        · have := g10.mpr w; exact Or.inl (Or.inl (Or.inl (Or.inl (Or.inl (Or.inl (Or.inr this))))))
        · have := g11.mpr w; exact Or.inl (Or.inl (Or.inl (Or.inl (Or.inl (Or.inr this)))))
        · have := g12.mpr w; exact Or.inl (Or.inl (Or.inl (Or.inl (Or.inr this))))
        · have := g13.mpr w; exact Or.inl (Or.inl (Or.inl (Or.inr this)))
    unfold f_X12_isOwn
    exact ⟨fun q => if_pos (key.mpr q), fun q => if_neg (fun w => q (key.mp w))⟩
  unfold f_X12_isName
  have h1 := hk.2.2.2.2.2.2.2.2
  by_cases c : v = 4
  · subst c
    obtain ⟨g1, g2⟩ : O 262 6 = 1 ∧ ∀ j, j < 14 → O 262 9 ≠ W256 j := by
      rcases hv with ⟨w, _⟩ | ⟨w, _⟩ | ⟨w, _⟩ | ⟨w, _⟩ | ⟨_, a, b, _⟩ | ⟨w, _⟩
      · omega
      · omega
      · omega
      · omega
      · exact ⟨a, b⟩
      · omega
    rw [e.2 (fun ⟨j, a, b⟩ => g2 j a b), if_pos ⟨g1, rfl⟩, if_pos rfl]
  · rw [if_neg c]
    rw [if_neg (fun w => by
      have hv3 : v = 3 := (h1.mp w.1).resolve_right c
      subst hv3
      rcases hv with ⟨w', _⟩ | ⟨w', _⟩ | ⟨w', _⟩ | ⟨_, a, _, b, _⟩ | ⟨w', _⟩ | ⟨w', _⟩
      · omega
      · omega
      · omega
      · rw [e.1 ⟨i, a, b⟩] at w; exact absurd w.2 (by decide)
      · omega
      · omega)]
theorem rf_isTold {S : Sst} {O : Smo} {l : List Int} (hB : LB T nt cn f S O) (hl : Wd l) (h9 : O 262 9 = d256 l) (h36 : O 262 36 = (cn : Int)) : ∃ r : Int, f_X12_isTold O = some r ∧ ((∃ j, j < cn ∧ l = f j) → r = 1) ∧ (¬ (∃ j, j < cn ∧ l = f j) → r = 0) := by
  obtain ⟨a1, a2, a3, a4, a5, _, a9, a10, a11, a12⟩ := hB
  have hj : ∀ j, j < cn → (O 271 j = O 262 9 ↔ l = f j) := fun j hj => by
    rw [(a12 j hj).2.2, h9]
    exact ⟨fun e => (d256_inj _ _ (a12 j hj).1.1 hl.1 e).symm, fun e => by rw [e]⟩
  have key : Ret (f_X12_isTold O) (fun r => ((∃ j, j < cn ∧ l = f j) → r = 1) ∧ (¬ (∃ j, j < cn ∧ l = f j) → r = 0)) := by
    unfold f_X12_isTold
    refine Ret_bind (P := fun r => ((∃ j, j < cn ∧ l = f j) → r = (1 : Int)) ∧ (¬ (∃ j, j < cn ∧ l = f j) → r = 0)) (Ret_lp (fun i q => q.2 = (i : Int) ∧ ((∃ j, j < i ∧ l = f j) → q.1 = (1 : Int)) ∧ (¬ (∃ j, j < i ∧ l = f j) → q.1 = 0)) cn (by omega) ⟨rfl, fun ⟨j, w, _⟩ => by omega, fun _ => rfl⟩ (fun i q hi hI => ?_) (fun q hI => ?_)) (fun r hr => Ret_some hr)
    · obtain ⟨z, i'⟩ := q
      obtain ⟨rfl, h1, h2⟩ := hI
      dsimp only at *
      rw [h36, if_pos (by omega), Ln271, aget_nat (show i < 8 by omega), wr_id (by omega) (by omega)]
      dsimp only [Option.bind_some]
      have hs : (∃ j, j < i + 1 ∧ l = f j) ↔ ((∃ j, j < i ∧ l = f j) ∨ l = f i) := by
        constructor
        · rintro ⟨j, w1, w2⟩
          by_cases e : j = i
          · exact Or.inr (e ▸ w2)
          · exact Or.inl ⟨j, by omega, w2⟩
        · rintro (⟨j, w1, w2⟩ | w)
          · exact ⟨j, by omega, w2⟩
          · exact ⟨i, by omega, w⟩
      rcases Classical.em (∃ j, j < i ∧ l = f j) with c | c
      · rw [h1 c, if_neg (show ¬ (1 : Int) = 0 by decide)]
        exact Ret_some ⟨_, rfl, by simp, fun _ => rfl, fun w => absurd (hs.mpr (Or.inl c)) w⟩
      · rw [h2 c, if_pos rfl]
        by_cases e : l = f i
        · rw [if_pos (zlcmp_0.mpr ((hj i hi).mpr e))]
          exact Ret_some ⟨_, rfl, by simp, fun _ => rfl, fun w => absurd (hs.mpr (Or.inr e)) w⟩
        · rw [if_neg (fun w => e ((hj i hi).mp (zlcmp_0.mp w)))]
          exact Ret_some ⟨_, rfl, by simp, fun w => ((hs.mp w).elim c e).elim, fun _ => rfl⟩
    · obtain ⟨z, i'⟩ := q
      obtain ⟨rfl, h1, h2⟩ := hI
      dsimp only at *
      rw [h36, if_neg (by omega)]
      exact Ret_some ⟨_, rfl, h1, h2⟩
  obtain ⟨r, a, b, c⟩ := key
  exact ⟨r, a, b, c⟩
end RSEG
