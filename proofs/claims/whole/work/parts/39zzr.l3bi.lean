/-! LEVEL 3, bi: map -/
theorem op_map {S : Sst} {O : Smo} (h : Inv S O) : Op2 (f_X11_map S) (f_X12_map O) := by
  have hI := h
  obtain ⟨n0, ne0, slots0, lo0, v0, tp0, bs0, ⟨nt, t1, t2, t3, t4⟩, h2, h3, h4, h5, h6, h7, h8⟩ := h
  obtain ⟨r, q, e1, e2, e3, e4, e5, e6⟩ := read_ok t1 t2 t4 t3 h3
  have hcl : f_X11_map S = Option.bind (f_X5_readMap S) (fun (q1599 : Sst) => if f_X3_failed (f_X6_clear 1 q1599) = 0 then some (f_X4_count 29 (mapE q1599), mapE q1599) else some (-1, f_X6_clear 1 q1599)) := rfl
  rw [hcl, e1]
  rcases e6 with e6 | ⟨c, f, p, k1, k2⟩
  · -- a fault
    obtain ⟨f1, f2⟩ := FT_0 e6
    have hf : ¬ f_X3_failed r = 0 := by
      unfold f_X3_failed
      rw [if_neg f1]
      decide
    have hf1 : ¬ f_X3_failed (f_X6_clear 1 r) = 0 := hf
    rw [if_neg hf]
    dsimp only [Option.bind_some]
    rw [if_neg hf1]
    have hm : f_X12_map O = some (-1, q) := by
      unfold f_X12_map
      rw [e2]
      dsimp only [Option.bind_some]
      rw [if_pos e6.2.1]
    rw [hm]
    refine ⟨_, _, _, rfl, rfl, Inv_frE hI (fun k a b c => ?_) (fun k j a b => e3.2 k j a b) e4 ?_ ?_⟩
    · show (upR r 1 []).1 k = _
      rw [upR_ne _ _ a]
      exact e3.1 k b c
    · exact ⟨0, upR_at _ _ _, by decide, e5, fun i hi => absurd hi (Nat.not_lt_zero i)⟩
    · obtain ⟨g1, g2, g3, g4, g5⟩ := e6
      exact ⟨g1, g3, g4.1, g4.2, g5⟩
  · -- a map
    obtain ⟨⟨d1, d2, d3⟩, d4, d5, d6, d7, d8, d9, d10⟩ := k2
    obtain ⟨l1, l2, l3, l4, l5, ⟨l6, l7, l8⟩, l9, l10, l11, l12⟩ := k1.1
    have hc8 := d2.1
    have hf : f_X3_failed r = 0 := by
      unfold f_X3_failed
      rw [if_pos l6]
    rw [if_pos hf]
    obtain ⟨rs, hF, h25, hwf, hlen, hU⟩ : ∃ rs : List Nat, ((q 262 23 = 0 ∧ rs = [113]) ∨ (q 262 23 = 1 ∧ q 262 16 = (rs.length : Int) ∧ RSt (q 264) dcA rs ∧ RSt (q 265) dcB rs ∧ wfR rs 1 ∧ rs.length ≤ 290)) ∧ r.1 25 = stR rs ∧ wfR rs 1 ∧ rs.length ≤ 300 ∧ r.2 24 0 = q 262 19 := by
      rcases d10 with ⟨x, y, z, w⟩ | ⟨x, rs, U, y, z, w, u1, u2, u3, u4, u5⟩
      · exact ⟨[113], Or.inl ⟨x, rfl⟩, y, Or.inr (Or.inl ⟨by decide, by decide, by decide, rfl⟩), by decide, by rw [w, z]⟩
      · exact ⟨rs, Or.inr ⟨x, u1, u2, u3, u4, u5⟩, y, u4, by omega, by rw [z, w]⟩
    obtain ⟨O', m1, m2, m3, ⟨m39, m40, m20, m45, m47, m48, m49, m62, m73⟩, m5, m6, m7, m8, m9, m10⟩ := rf_mapT e2 l7 d3 d2 hF
    have hgg : ∀ k, k < c → sga (sgO O') k = sga (gN q) k ∧ sgu (sgO O') k = sgu (gN q) k ∧ sgb (sgO O') k = sgb (gN q) k ∧ sgv (sgO O') k = sgv (gN q) k := m5
    have hok : OkSeg (sgO O') c := ⟨hc8, fun i hi => (seg_congr (hgg i hi)).mpr (d2.2.1 i hi), fun i j hi hj hij => (noMeet_congr (hgg i hi) (hgg j hj)).mpr (d2.2.2 i j hi hj hij)⟩
    have hRl : RPl 5 r (sgO O') c := by
      obtain ⟨x1, x2, x3, x4, x5, x6⟩ := d1
      refine ⟨?_, ?_, ?_, ?_, ?_, ?_⟩
      · rw [x1]; exact rg_ext (fun k hk => (hgg k hk).1.symm)
      · rw [x2]; exact rg_ext (fun k hk => (hgg k hk).2.1.symm)
      · rw [x3]; exact rg_ext (fun k hk => (hgg k hk).2.2.1.symm)
      · rw [x4]; exact rg_ext (fun k hk => (hgg k hk).2.2.2.symm)
      · rw [x5]; exact rg_ext (fun k hk => by unfold gW; rw [(hgg k hk).1, (hgg k hk).2.2.1])
      · rw [x6]; exact rg_ext (fun k hk => by unfold gR; rw [(hgg k hk).2.1, (hgg k hk).2.2.2])
    obtain ⟨S2, s1, lo, s2, s3, s4, s5, s6, s7, s8⟩ := cl_settle5 hRl hok d9.1 d9.2.1 d9.2.2 h25 hwf hlen d8.1
    have hR2 := RPl_rows hRl (S' := S2) (fun k a b => s7 k (by simp; omega))
    have h22 : S2.1 22 = rg (evT (sgO O') c 61).length (O' 281) := by
      rw [s5]
      unfold natL
      rw [rg_map]
      exact rg_ext (fun k hk => (m7 k hk).symm)
    have h20 : S2.1 20 = rg c (O' 280) := by
      rw [s4]
      exact rg_ext (fun k hk => (m6 k hk).symm)
    have hne := evT_len (g := sgO O') hc8 61
    obtain ⟨z1, z2, z3, z4, z5, z6, z7, z8, z9, z10, z11, z12, z13, z14, z15⟩ := mapE_ok hR2 hc8 hne s2 h20 h22
    have hev := evT_ok hok m7
    rw [s1]
    dsimp only [Option.bind_some]
    have i53 : ∀ j, S2.2 53 j = r.2 53 j := fun j => s8 53 j (by omega)
    have hf2 : f_X3_failed (f_X6_clear 1 S2) = 0 := by
      show f_X3_failed S2 = 0
      unfold f_X3_failed
      rw [if_pos (by rw [i53]; exact l6)]
    rw [if_pos hf2, m1, pl_count z3]
    have e53 : ∀ j, (mapE S2).2 53 j = r.2 53 j := fun j => by rw [z15 53 j (by decide) (by omega) (by omega) (by omega) (by omega), i53]
    refine ⟨_, _, _, rfl, rfl, c, (evT (sgO O') c 61).length, (q 262 37).toNat, lo, 0, 0, 0, ?_, ?_, ?_, ?_, ?_, ?_, ?_, ?_⟩
    · exact ⟨0, z1, by decide, by rw [m3 1 (by decide)]; exact e5, fun i hi => absurd hi (Nat.not_lt_zero i)⟩
    · exact ⟨0, z2, by decide, m62⟩
    · refine ⟨?_, ?_, ?_, ?_, fun i hi => ?_⟩
      · rw [e53, m3 2 (by decide), l6, l7]
      · rw [e53, m3 3 (by decide), l8]
      · rw [e53, l9]; omega
      · rw [e53, l9]; omega
      · rw [z15 54 i (by decide) (by omega) (by omega) (by omega) (by omega), s8 54 i (by omega)]
        exact l11 i hi
    · refine ⟨⟨z3, z4, z5, z6, ?_, s3⟩, hok, ⟨by omega, by omega⟩, hev, m39, m45, ?_, ?_⟩
      · rw [z8, s8 5 11 (by decide), d7.1]; omega
      · rw [m40]; omega
      · rw [z7, s6, hU, m20]
    · refine ⟨m47, m48, m49, ⟨by decide, by decide, by decide⟩, sto0 m8 _ _ _ _ _ _, rep0 m8 z9 z10 _ _ _⟩
    · refine ⟨?_, by rw [z11]; rfl, fun u a b => absurd b (Nat.not_lt_zero u)⟩
      rw [z12]; rfl
    · intro b hb
      refine ⟨by rw [m10 b hb, z13 b hb], Or.inl (m10 b hb)⟩
    · obtain ⟨y1, ns, y2, y3, y4, y5, y6, y7, y8, y9, y10⟩ := h8
      have hO74 : O' 262 74 = O 262 74 := by rw [m3 74 (by decide), e4.2 74 (by decide)]
      refine ⟨fun i hi => ?_, 0, z14.1, z14.2.1, z14.2.2.1, z14.2.2.2, by decide, m73, ?_, ?_, fun i hi => absurd hi (Nat.not_lt_zero i)⟩
      · rw [m9 i (by omega), e4.1 282 (by decide) (by decide)]
        exact y1 i hi
      · rw [z15 249 2 (by decide) (by omega) (by omega) (by omega) (by omega), s8 249 2 (by omega), e3.2 249 2 (by omega) (by omega), hO74]
        exact y8
      · rw [hO74]; exact y9
