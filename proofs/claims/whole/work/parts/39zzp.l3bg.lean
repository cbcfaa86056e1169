/-! LEVEL 3, bg: map, the reference -/
theorem RSt_cp {a b h : Nat → Int} : ∀ {st : List Nat}, (∀ i, i < st.length → b i = a i) → RSt a h st → RSt b h st
  | [], _, _ => trivial
  | k :: st, e, hr => ⟨by rw [e st.length (by simp)]; exact hr.1, RSt_cp (fun i hi => e i (by rw [List.length_cons]; omega)) hr.2⟩
def MapR (q O' : Smo) (c : Nat) (rs : List Nat) : Prop := (∀ k, k ∉ [262, 266, 267, 269, 270, 276, 277, 278, 279, 280, 281, 282, 304] → O' k = q k) ∧ (∀ j, j ∉ [17, 20, 24, 39, 40, 41, 45, 47, 48, 49, 62, 73] → O' 262 j = q 262 j) ∧
  (O' 262 39 = (c : Int) ∧ O' 262 40 = q 262 37 ∧ O' 262 20 = q 262 19 ∧ O' 262 45 = ((evT (sgO O') c 61).length : Int) ∧ O' 262 47 = 0 ∧ O' 262 48 = 0 ∧ O' 262 49 = 0 ∧ O' 262 62 = 0 ∧ O' 262 73 = 0) ∧
  (∀ i, i < c → O' 276 i = q 272 i ∧ O' 277 i = q 273 i ∧ O' 278 i = q 274 i ∧ O' 279 i = q 275 i) ∧ (∀ i, i < c → O' 280 i = wtF (sgO O') (q 262 38) rs i) ∧
  (∀ i, i < (evT (sgO O') c 61).length → O' 281 i = (((evT (sgO O') c 61).getD i 0 : Nat) : Int)) ∧ (∀ i, i < 205 → O' 282 i = 0) ∧ (∀ i, 205 ≤ i → O' 282 i = q 282 i) ∧ ∀ b, b < 3 → O' 304 b = 0
theorem rf_mapT {O q : Smo} (hall : f_X12_readAll O = some q) (h2 : q 262 2 = 0) {c : Nat} (h36 : q 262 36 = (c : Int)) (hg : OkSeg (gN q) c) {rs : List Nat} (hF : (q 262 23 = 0 ∧ rs = [113]) ∨ (q 262 23 = 1 ∧ q 262 16 = (rs.length : Int) ∧ RSt (q 264) dcA rs ∧ RSt (q 265) dcB rs ∧ wfR rs 1 ∧ rs.length ≤ 290)) : ∃ O', f_X12_map O = some ((c : Int), O') ∧ MapR q O' c rs := by
  have hc8 := hg.1
  unfold f_X12_map
  rw [hall]
  dsimp only [Option.bind_some, jn]
  rw [if_neg (c := 0 < q 262 2) (by rw [h2]; decide)]
  -- the counts
  obtain ⟨n1, hn1, hn1b⟩ : ∃ n1 : Nat, (if q 262 23 = 0 then (0 : Int) else q 262 16) = (n1 : Int) ∧ n1 ≤ 290 := by
    rcases hF with ⟨a, _⟩ | ⟨a, b, _, _, _, d⟩
    · exact ⟨0, by rw [if_pos a]; rfl, by decide⟩
    · exact ⟨rs.length, by rw [if_neg (by omega), b], d⟩
  have hM : ∀ M : Smo, M = up2 (up2 (up2 (up2 (up2 (up2 q 262 39 (q 262 36)) 262 40 (up2 q 262 39 (q 262 36) 262 37)) 262 41 (up2 (up2 q 262 39 (q 262 36)) 262 40 (up2 q 262 39 (q 262 36) 262 37) 262 38)) 262 20 (up2 (up2 (up2 q 262 39 (q 262 36)) 262 40 (up2 q 262 39 (q 262 36) 262 37)) 262 41 (up2 (up2 q 262 39 (q 262 36)) 262 40 (up2 q 262 39 (q 262 36) 262 37) 262 38) 262 19)) 262 24 (up2 (up2 (up2 (up2 q 262 39 (q 262 36)) 262 40 (up2 q 262 39 (q 262 36) 262 37)) 262 41 (up2 (up2 q 262 39 (q 262 36)) 262 40 (up2 q 262 39 (q 262 36) 262 37) 262 38)) 262 20 (up2 (up2 (up2 q 262 39 (q 262 36)) 262 40 (up2 q 262 39 (q 262 36) 262 37)) 262 41 (up2 (up2 q 262 39 (q 262 36)) 262 40 (up2 q 262 39 (q 262 36) 262 37) 262 38) 262 19) 262 23)) 262 17 (n1 : Int) → (∀ k, k ≠ 262 → M k = q k) ∧ (∀ j, j ∉ [17, 20, 24, 39, 40, 41] → M 262 j = q 262 j) ∧ M 262 39 = (c : Int) ∧ M 262 40 = q 262 37 ∧ M 262 41 = q 262 38 ∧ M 262 20 = q 262 19 ∧ M 262 24 = q 262 23 ∧ M 262 17 = (n1 : Int) := fun M e => by
    subst e
    refine ⟨fun k hk => by simp only [up2_row hk], fun j hj => ?_, ?_, ?_, ?_, ?_, ?_, ?_⟩
    · simp at hj
      simp [up2, hj]
    · simp [up2, h36]
    all_goals simp [up2]
  have hif : (if (up2 (up2 (up2 (up2 (up2 q 262 39 (q 262 36)) 262 40 (up2 q 262 39 (q 262 36) 262 37)) 262 41 (up2 (up2 q 262 39 (q 262 36)) 262 40 (up2 q 262 39 (q 262 36) 262 37) 262 38)) 262 20 (up2 (up2 (up2 q 262 39 (q 262 36)) 262 40 (up2 q 262 39 (q 262 36) 262 37)) 262 41 (up2 (up2 q 262 39 (q 262 36)) 262 40 (up2 q 262 39 (q 262 36) 262 37) 262 38) 262 19)) 262 24 (up2 (up2 (up2 (up2 q 262 39 (q 262 36)) 262 40 (up2 q 262 39 (q 262 36) 262 37)) 262 41 (up2 (up2 q 262 39 (q 262 36)) 262 40 (up2 q 262 39 (q 262 36) 262 37) 262 38)) 262 20 (up2 (up2 (up2 q 262 39 (q 262 36)) 262 40 (up2 q 262 39 (q 262 36) 262 37)) 262 41 (up2 (up2 q 262 39 (q 262 36)) 262 40 (up2 q 262 39 (q 262 36) 262 37) 262 38) 262 19) 262 23)) 262 23 = 0 then (0 : Int) else (up2 (up2 (up2 (up2 (up2 q 262 39 (q 262 36)) 262 40 (up2 q 262 39 (q 262 36) 262 37)) 262 41 (up2 (up2 q 262 39 (q 262 36)) 262 40 (up2 q 262 39 (q 262 36) 262 37) 262 38)) 262 20 (up2 (up2 (up2 q 262 39 (q 262 36)) 262 40 (up2 q 262 39 (q 262 36) 262 37)) 262 41 (up2 (up2 q 262 39 (q 262 36)) 262 40 (up2 q 262 39 (q 262 36) 262 37) 262 38) 262 19)) 262 24 (up2 (up2 (up2 (up2 q 262 39 (q 262 36)) 262 40 (up2 q 262 39 (q 262 36) 262 37)) 262 41 (up2 (up2 q 262 39 (q 262 36)) 262 40 (up2 q 262 39 (q 262 36) 262 37) 262 38)) 262 20 (up2 (up2 (up2 q 262 39 (q 262 36)) 262 40 (up2 q 262 39 (q 262 36) 262 37)) 262 41 (up2 (up2 q 262 39 (q 262 36)) 262 40 (up2 q 262 39 (q 262 36) 262 37) 262 38) 262 19) 262 23)) 262 16) = (n1 : Int) := by
    rw [← hn1]
    have e1 : ∀ a b d e f : Int, (up2 (up2 (up2 (up2 (up2 q 262 39 a) 262 40 b) 262 41 d) 262 20 e) 262 24 f) 262 23 = q 262 23 := fun a b d e f => by simp [up2]
    have e2 : ∀ a b d e f : Int, (up2 (up2 (up2 (up2 (up2 q 262 39 a) 262 40 b) 262 41 d) 262 20 e) 262 24 f) 262 16 = q 262 16 := fun a b d e f => by simp [up2]
    simp only [e1, e2]
  rw [hif]
  generalize hMe : up2 (up2 (up2 (up2 (up2 (up2 q 262 39 (q 262 36)) 262 40 (up2 q 262 39 (q 262 36) 262 37)) 262 41 (up2 (up2 q 262 39 (q 262 36)) 262 40 (up2 q 262 39 (q 262 36) 262 37) 262 38)) 262 20 (up2 (up2 (up2 q 262 39 (q 262 36)) 262 40 (up2 q 262 39 (q 262 36) 262 37)) 262 41 (up2 (up2 q 262 39 (q 262 36)) 262 40 (up2 q 262 39 (q 262 36) 262 37) 262 38) 262 19)) 262 24 (up2 (up2 (up2 (up2 q 262 39 (q 262 36)) 262 40 (up2 q 262 39 (q 262 36) 262 37)) 262 41 (up2 (up2 q 262 39 (q 262 36)) 262 40 (up2 q 262 39 (q 262 36) 262 37) 262 38)) 262 20 (up2 (up2 (up2 q 262 39 (q 262 36)) 262 40 (up2 q 262 39 (q 262 36) 262 37)) 262 41 (up2 (up2 q 262 39 (q 262 36)) 262 40 (up2 q 262 39 (q 262 36) 262 37) 262 38) 262 19) 262 23)) 262 17 (n1 : Int) = M at hM
  obtain ⟨m0, m1, m39, m40, m41, m20, m24, m17⟩ := hM M rfl
  obtain ⟨A, a1, a2, a3⟩ := rf_cp1 m17 (by omega)
  rw [a1]
  dsimp only [Option.bind_some]
  obtain ⟨B, b1, b2, b3⟩ := rf_cp2 (O := A) (n := c) (by rw [a2 262 (by decide) (by decide)]; exact m39) hc8
  rw [b1]
  dsimp only [Option.bind_some]
  have hB262 : B 262 = M 262 := by rw [b2 262 (by decide), a2 262 (by decide) (by decide)]
  have hB27 : ∀ i, i < c → B 276 i = q 272 i ∧ B 277 i = q 273 i ∧ B 278 i = q 274 i ∧ B 279 i = q 275 i := fun i hi => by
    obtain ⟨x, y, z, w⟩ := b3 i hi
    rw [x, y, z, w, a2 272 (by decide) (by decide), a2 273 (by decide) (by decide), a2 274 (by decide) (by decide), a2 275 (by decide) (by decide), m0 272 (by decide), m0 273 (by decide), m0 274 (by decide), m0 275 (by decide)]
    exact ⟨rfl, rfl, rfl, rfl⟩
  have hBs : ∀ i, i < c → SegB (sgO B) i := fun i hi => (seg_congr (g := gN q) (g' := sgO B) (hB27 i hi)).mpr (hg.2.1 i hi)
  have hFB : (B 262 24 = 0 ∧ rs = [113]) ∨ (B 262 24 = 1 ∧ B 262 17 = (rs.length : Int) ∧ RSt (B 266) dcA rs ∧ RSt (B 267) dcB rs ∧ wfR rs 1 ∧ rs.length ≤ 300) := by
    rw [hB262, m24, m17]
    rcases hF with ⟨x, y⟩ | ⟨x, y, z, w, u, t⟩
    · exact Or.inl ⟨x, y⟩
    · right
      rw [if_neg (by omega), y] at hn1
      have hn : n1 = rs.length := by omega
      refine ⟨x, by rw [hn], ?_, ?_, u, by omega⟩
      · rw [b2 266 (by decide)]
        refine RSt_cp (fun i hi => ?_) z
        rw [(a3 i (by omega)).1, m0 264 (by decide)]
      · rw [b2 267 (by decide)]
        refine RSt_cp (fun i hi => ?_) w
        rw [(a3 i (by omega)).2, m0 265 (by decide)]
  obtain ⟨C, c1, c2, c3⟩ := rf_wts (O := B) (n := c) (rs := rs) (seed := q 262 38) (by rw [hB262]; exact m39) hc8 hBs (by rw [hB262]; exact m41) hFB
  rw [c1]
  dsimp only [Option.bind_some]
  have hsgC : sgO C = sgO B := by
    unfold sgO
    rw [c2 276 (by decide), c2 277 (by decide), c2 278 (by decide), c2 279 (by decide)]
  obtain ⟨D, d1, d2, d3, d4, d5⟩ := rf_evs (O := C) (n := c) (by rw [c2 262 (by decide), hB262]; exact m39) hc8
  rw [hsgC] at d4 d5
  rw [d1]
  dsimp only [Option.bind_some]
  obtain ⟨E, e1, e2, e3, e4⟩ := rf_zero (O := up2 (up2 (up2 D 262 47 0) 262 48 0) 262 49 0) (k := 282) (n := 205) (m := 7565) (by decide) (by decide) Ln282
  have e1' := e1
  rw [show ((205 : Nat) : Int) = 205 from rfl] at e1'
  rw [e1']
  dsimp only [Option.bind_some]
  obtain ⟨G, g1, g2, g3, g4⟩ := rf_zero (O := up2 (up2 E 262 73 0) 262 62 0) (k := 304) (n := 3) (m := 3) (by decide) (by decide) Ln304
  have g1' := g1
  rw [show ((3 : Nat) : Int) = 3 from rfl] at g1'
  rw [g1']
  dsimp only [Option.bind_some]
  -- what stands at the end
  have hE : ∀ k, k ≠ 262 → k ≠ 282 → k ≠ 304 → G k = D k := fun k x y z => by
    rw [g2 k z, up2_row x, up2_row x, e2 k y, up2_row x, up2_row x, up2_row x]
  have hG262 : ∀ j, G 262 j = (if j = 62 then 0 else if j = 73 then 0 else if j = 49 then 0 else if j = 48 then 0 else if j = 47 then 0 else D 262 j) := fun j => by
    rw [g2 262 (by decide)]
    have : ∀ j, E 262 j = up2 (up2 (up2 D 262 47 0) 262 48 0) 262 49 0 262 j := fun j => by rw [e2 262 (by decide)]
    simp only [up2, true_and, this]
  have hD262 : ∀ j, j ≠ 45 → D 262 j = M 262 j := fun j hj => by rw [d3 j hj, c2 262 (by decide), hB262]
  have hsgG : sgO G = sgO B := by
    rw [← hsgC]
    unfold sgO
    rw [hE 276 (by decide) (by decide) (by decide), hE 277 (by decide) (by decide) (by decide), hE 278 (by decide) (by decide) (by decide), hE 279 (by decide) (by decide) (by decide), d2 276 (by decide) (by decide), d2 277 (by decide) (by decide), d2 278 (by decide) (by decide), d2 279 (by decide) (by decide)]
  have h39 : G 262 39 = (c : Int) := by
    rw [hG262]
    simp only [reduceIte, show ¬ (39 : Nat) = 62 by decide, show ¬ (39 : Nat) = 73 by decide, show ¬ (39 : Nat) = 49 by decide, show ¬ (39 : Nat) = 48 by decide, show ¬ (39 : Nat) = 47 by decide]
    rw [hD262 39 (by decide), m39]
  refine ⟨G, by rw [h39], fun k hk => ?_, fun j hj => ?_, ⟨h39, ?_, ?_, ?_, ?_, ?_, ?_, ?_, ?_⟩, fun i hi => ?_, fun i hi => ?_, fun i hi => ?_, fun i hi => ?_, fun i hi => ?_, fun b hb => g3 b hb⟩
  · simp at hk
    rw [hE k (by omega) (by omega) (by omega), d2 k (by omega) (by omega), c2 k (by simp; omega), b2 k (by simp; omega), a2 k (by omega) (by omega), m0 k (by omega)]
  · have hj' := hj
    simp at hj'
    rw [hG262, if_neg (by omega), if_neg (by omega), if_neg (by omega), if_neg (by omega), if_neg (by omega), hD262 j (by omega), m1 j (by simp; omega)]
  · rw [hG262, if_neg (by decide), if_neg (by decide), if_neg (by decide), if_neg (by decide), if_neg (by decide), hD262 40 (by decide), m40]
  · rw [hG262, if_neg (by decide), if_neg (by decide), if_neg (by decide), if_neg (by decide), if_neg (by decide), hD262 20 (by decide), m20]
  · rw [hG262, if_neg (by decide), if_neg (by decide), if_neg (by decide), if_neg (by decide), if_neg (by decide), d4, hsgG]
  · rw [hG262]; rfl
  · rw [hG262]; rfl
  · rw [hG262]; rfl
  · rw [hG262]; rfl
  · rw [hG262]; rfl
  · rw [hE 276 (by decide) (by decide) (by decide), hE 277 (by decide) (by decide) (by decide), hE 278 (by decide) (by decide) (by decide), hE 279 (by decide) (by decide) (by decide), d2 276 (by decide) (by decide), d2 277 (by decide) (by decide), d2 278 (by decide) (by decide), d2 279 (by decide) (by decide), c2 276 (by decide), c2 277 (by decide), c2 278 (by decide), c2 279 (by decide)]
    exact hB27 i hi
  · rw [hE 280 (by decide) (by decide) (by decide), d2 280 (by decide) (by decide), c3 i hi, hsgG]
  · rw [hsgG] at hi ⊢
    rw [hE 281 (by decide) (by decide) (by decide)]
    exact d5 i hi
  · rw [g2 282 (by decide), up2_row (by decide), up2_row (by decide)]
    exact e3 i hi
  · rw [g2 282 (by decide), up2_row (by decide), up2_row (by decide), e4 i hi, up2_row (by decide), up2_row (by decide), up2_row (by decide), d2 282 (by decide) (by decide), c2 282 (by decide), b2 282 (by decide), a2 282 (by decide) (by decide), m0 282 (by decide)]
