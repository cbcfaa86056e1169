/-! LEVEL 3, aw: a segment is read -/
section SEGF
variable {T : Nat → Int} {nt : Nat} {f : Nat → List Int}
theorem seg_ok {p c : Nat} {S : Sst} {O : Smo} (h : OKT T nt c f S O p) (hp : S.2 53 9 = (p : Int) ∧ O 262 4 = (p : Int)) (hc : c < 8) (hR : RPl 5 S (gN O) c) (hg : OkSeg (gN O) c) (h36 : O 262 36 = (c : Int)) : ∃ S' O', f_X5_readSegment S = some S' ∧ f_X12_readSegment O = some O' ∧ FrS1 S S' ∧ FrS2 O O' ∧ (FT S' O' ∨ ∃ f' p', OKT T nt (c + 1) f' S' O' p' ∧ Adv nt O' p p' ∧ RPl 5 S' (gN O') (c + 1) ∧ OkSeg (gN O') (c + 1) ∧ O' 262 36 = ((c + 1 : Nat) : Int)) := by
  obtain ⟨S1, O1, p1, e1, e2, e3, e4, e5, e6⟩ := next_tok h.1 hp.1 hp.2 h.2.1
  obtain ⟨v, i, hv5, hv, hpv⟩ := LT_view e3.2
  have hk := Vw_k hv
  have h361 : O1 262 36 = (c : Int) := by rw [e6.2 36 (by decide), h36]
  rw [segC_eq, segR_eq, e1, e2]
  dsimp only [Option.bind_some, jn]
  rw [isName_v hv]
  -- a fault of the name
  have bad : ∀ a : Int, 0 < a → f_X5_newName S1 = Option.bind (f_X3_step (f_X3_fail a S1)) (fun q => some q) → ∀ X : Option Smo, X = some (f_X12_wrong a O1) → ∃ S' O', Option.bind (f_X5_newName S1) sgC = some S' ∧ (Option.bind X fun (q6164 : Smo) =>
  if 0 < q6164 262 2 then
    (some q6164)
  else
    (Option.bind (asetO q6164 271 (Ln 271) (q6164 262 36) (q6164 262 9)) fun (O6185 : Smo) =>
    Option.bind (f_X12_token O6185) fun (q6187 : Smo) => sgR (q6164 262 36) q6187)) = some O' ∧ FrS1 S S' ∧ FrS2 O O' ∧ (FT S' O' ∨ ∃ f' p', OKT T nt (c + 1) f' S' O' p' ∧ Adv nt O' p p' ∧ RPl 5 S' (gN O') (c + 1) ∧ OkSeg (gN O') (c + 1) ∧ O' 262 36 = ((c + 1 : Nat) : Int)) := by
    intro a ha hn X hX
    obtain ⟨S', O', i1, i2, i3, i4, i5, _, _⟩ := fail_ok e3.1 hv e3.2.2.1 (a := a) ha
    rw [hX, i2, hn, i1, FT_step (FT_0 i3).1]
    dsimp only [Option.bind_some]
    rw [sgC_F (FT_0 i3).1, if_pos i3.2.1]
    exact ⟨_, _, rfl, rfl, FrS1_trans (FrS1_E e5) (FrS1_E i4), FrO_trans (FrS2_O e6 (by simp)) (FrS2_O i5 (by simp)), Or.inl i3⟩
  by_cases c4 : v = 4
  · subst c4
    obtain ⟨o6, on, l, hl, o9, s7, kd⟩ : O1 262 6 = 1 ∧ (∀ j, j < 14 → O1 262 9 ≠ W256 j) ∧ ∃ l, Wd l ∧ O1 262 9 = d256 l ∧ S1.2 53 7 = d32 l ∧ ((S1.2 53 0 = 4 ∧ ∃ j, j < c ∧ l = f j) ∨ (S1.2 53 0 = 3 ∧ ∀ j, j < c → l ≠ f j)) := by
      rcases hv with ⟨w, _⟩ | ⟨w, _⟩ | ⟨w, _⟩ | ⟨w, _⟩ | ⟨_, a, b, d⟩ | ⟨w, _⟩
      · omega
      · omega
      · omega
      · omega
      · exact ⟨a, b, d⟩
      · omega
    obtain ⟨r, t1, t2, t3⟩ := rf_isTold e3.1 hl o9 h361
    rw [if_pos rfl, if_neg (show ¬ (1 : Int) = 0 by decide), t1]
    dsimp only [Option.bind_some]
    rcases kd with ⟨k4, hj⟩ | ⟨k3, hj⟩
    · rw [t2 hj, if_neg (show ¬ (1 : Int) = 0 by decide)]
      exact bad 3 (by decide) (by
        unfold f_X5_newName
        dsimp only [jn]
        rw [if_pos k4]
        rfl) _ rfl
    · rw [t3 (fun ⟨j, a, b⟩ => hj j a b), if_pos rfl]
      dsimp only [Option.bind_some]
      obtain ⟨a1, a2, a3, a4, a5, ⟨a6, a7, a8⟩, a9, a10, a11, a12⟩ := id e3.1
      obtain ⟨q9, q4⟩ := hpv (by decide)
      rw [if_neg (c := 0 < O1 262 2) (by rw [a7]; decide), h361, Ln271, aset_nat hc]
      dsimp only [Option.bind_some]
      have hnn : f_X5_newName S1 = Option.bind (f_X3_step (upS (upS S1 54 (14 + c) (d32 l)) 53 6 (((14 + c : Nat) : Int) + 1))) (fun q => some q) := by
        unfold f_X5_newName f_X3_addName f_X3_addWord
        dsimp only [jn]
        rw [if_neg (by omega), if_pos k3, if_neg (c := S1.2 53 6 < 0 ∨ _) (by rw [a9, Ln54]; omega), Ln54, show S1.2 53 6 = ((14 + c : Nat) : Int) by rw [a9]; omega]
        unfold asetS
        rw [if_pos (by omega), Int.toNat_natCast]
        dsimp only [Option.bind_some]
        rw [upS_ne (Or.inl (by decide)), show S1.2 53 6 = ((14 + c : Nat) : Int) by rw [a9]; omega, wr_id (by omega) (by omega), s7]
      have hB2 : LB T nt (c + 1) (fun j => if j = c then l else f j) (upS (upS S1 54 (14 + c) (d32 l)) 53 6 (((14 + c : Nat) : Int) + 1)) (up2 O1 271 c (O1 262 9)) := by
        refine ⟨a1, a2, a3, by rw [up2_row (by decide)]; exact a4, by rw [up2_ne (Or.inl (by decide))]; exact a5, ⟨?_, by rw [up2_ne (Or.inl (by decide))]; exact a7, ?_⟩, ?_, by omega, fun j hj' => ?_, fun j hj' => ?_⟩
        · rw [upS_ne (Or.inr (by decide)), upS_ne (Or.inl (by decide))]; exact a6
        · rw [upS_ne (Or.inr (by decide)), upS_ne (Or.inl (by decide)), up2_ne (Or.inl (by decide))]; exact a8
        · rw [upS_same]; omega
        · rw [upS_ne (Or.inl (by decide)), upS_ne (Or.inr (by omega))]; exact a11 j hj'
        · dsimp only
          by_cases e : j = c
          · subst e
            rw [if_pos rfl, upS_ne (Or.inl (by decide)), upS_same, up2_same]
            exact ⟨hl, rfl, o9⟩
          · rw [if_neg e, upS_ne (Or.inl (by decide)), upS_ne (Or.inr (by omega)), up2_ne (Or.inr e)]
            exact a12 j (by omega)
      obtain ⟨S3, O3, p3, i1, i2, i3, i4, i5, i6⟩ := next_tok hB2 (p := p1) (by rw [upS_ne (Or.inr (by decide)), upS_ne (Or.inl (by decide))]; exact q9) (by rw [up2_ne (Or.inl (by decide))]; exact q4) e3.2.1
      rw [hnn, i1, i2]
      dsimp only [Option.bind_some]
      have hrows : S3.1 = S.1 := by rw [i5.1]; exact e5.1
      have hgN : gN O3 = gN O := by
        unfold gN
        rw [i6.1 272 (by simp) (by decide), i6.1 273 (by simp) (by decide), i6.1 274 (by simp) (by decide), i6.1 275 (by simp) (by decide), up2_row (by decide), up2_row (by decide), up2_row (by decide), up2_row (by decide), e6.1 272 (by simp) (by decide), e6.1 273 (by simp) (by decide), e6.1 274 (by simp) (by decide), e6.1 275 (by simp) (by decide)]
      have hf2 : FrS1 S1 (upS (upS S1 54 (14 + c) (d32 l)) 53 6 (((14 + c : Nat) : Int) + 1)) := ⟨fun k _ => rfl, fun k j a b => by rw [upS_ne (Or.inl a), upS_ne (Or.inl b)]⟩
      obtain ⟨S', O', j1, j2, j3, j4, j5⟩ := sg_tail (p0 := p) (Or.inr ⟨p3, i3, Adv_trans (O1 := O3) e4.1 i4⟩) hc (by rw [hgN]; unfold RPl at *; rw [hrows]; exact hR) (by rw [hgN]; exact hg) (by rw [i6.2 36 (by decide), up2_ne (Or.inl (by decide))]; exact h361)
      refine ⟨S', O', j1, j2, FrS1_trans (FrS1_E e5) (FrS1_trans hf2 (FrS1_trans (FrS1_E i5) j3)), FrO_trans (FrS2_O e6 (by simp)) (FrO_trans (FrS2_up (by decide)) (FrO_trans (FrS2_O i6 (by simp)) j4)), j5.imp id (fun ⟨p', w⟩ => ⟨_, p', w⟩)⟩
  · rw [if_neg c4, if_pos rfl]
    exact bad 2 (by decide) (by
      have hn4 : ¬ S1.2 53 0 = 4 ∧ ¬ S1.2 53 0 = 3 := by
        rcases hv with ⟨rfl, h1, h2⟩ | ⟨rfl, h1, h2⟩ | ⟨rfl, h1, h2, _⟩ | ⟨rfl, h0, h1, h2, h3⟩ | ⟨rfl, _⟩ | ⟨rfl, h0, h1, h2⟩
        · omega
        · omega
        · omega
        · omega
        · exact absurd rfl c4
        · have := SG_l h0; omega
      unfold f_X5_newName
      dsimp only [jn]
      rw [if_neg hn4.1, if_neg hn4.2]
      rfl) _ rfl
end SEGF
