/-! LEVEL 3, z: what holds between the calls -/
def W32 (i : Nat) : Int := [19623, 52, 655, 777297171, 20332179, 149559, 498, 1476, 14836, 492210354, 37305971, 24416904, 599653, 414827].getD i 0
def ITape (S : Sst) (O : Smo) : Prop := ∃ nt : Nat, S.1 1 = rg nt (O 263) ∧ nt ≤ 1600 ∧ O 262 1 = (nt : Int) ∧ ∀ i, i < nt → 0 ≤ O 263 i ∧ O 263 i ≤ 255
def ILie (S : Sst) (O : Smo) : Prop := ∃ ni : Nat, S.1 3 = rg ni (O 292) ∧ ni ≤ 8 ∧ O 262 62 = (ni : Int)
def ILex (S : Sst) (O : Smo) : Prop := S.2 53 2 = O 262 2 ∧ S.2 53 3 = O 262 3 ∧ 14 ≤ S.2 53 6 ∧ S.2 53 6 ≤ 22 ∧ ∀ i, i < 14 → S.2 54 i = W32 i
def IPlan (S : Sst) (O : Smo) (n ne slots : Nat) (lo : Nat → Nat) : Prop := PlS S (sgO O) n (O 280) (O 281) ne lo slots ∧ OkSeg (sgO O) n ∧ (1 ≤ slots ∧ slots ≤ 6) ∧ EvOk (sgO O) n ne (O 281) ∧ O 262 39 = (n : Int) ∧ O 262 45 = (ne : Int) ∧ O 262 40 = (slots : Int) ∧ S.2 29 10 = O 262 20
def IVer (S : Sst) (O : Smo) (n ne slots v tp bs : Nat) : Prop := O 262 47 = (v : Int) ∧ O 262 48 = (tp : Int) ∧ O 262 49 = (bs : Int) ∧ (bs ≤ v ∧ v ≤ tp ∧ tp ≤ 40) ∧ stoA (sgO O) n ne (O 280) (O 281) slots (O 282) tp ∧ RepS 74 S (sgO O) (O 280) slots (O 282) v
def IAct (S : Sst) (O : Smo) (n ne v tp bs : Nat) : Prop := S.2 239 1 = (v : Int) - bs ∧ (S.1 240).length = tp - bs ∧ ∀ u, bs ≤ u → u < tp → ∃ act, (S.1 240)[u - bs]? = some act ∧ actA (sgO O) n (O 281) ne (O 282) u act
def boxA (O : Smo) (b : Nat) : Nat → Int := fun k => if k < 7565 then O 305 (7565 * b + k) else 0
def IBox (S : Sst) (O : Smo) (n ne slots : Nat) : Prop := ∀ b, b < 3 → O 304 b = S.2 (140 + 33 * b) 16 ∧ (O 304 b = 0 ∨ (O 304 b = 1 ∧ ∃ vb : Nat, vb ≤ 40 ∧ O 306 b = (vb : Int) ∧ stoA (sgO O) n ne (O 280) (O 281) slots (boxA O b) vb ∧ RepS (140 + 33 * b) S (sgO O) (O 280) slots (boxA O b) vb))
def ITold (S : Sst) (O : Smo) (n : Nat) : Prop := (∀ i, 7565 ≤ i → O 282 i = 0) ∧ ∃ ns : Nat, S.1 254 = rg ns (O 298) ∧ S.1 256 = rg ns (O 301) ∧ S.1 258 = rg ns (O 299) ∧ S.1 260 = rg ns (O 300) ∧ ns ≤ 30 ∧ O 262 73 = (ns : Int) ∧ S.2 249 2 = O 262 74 ∧ (0 ≤ O 262 74 ∧ O 262 74 ≤ 100000) ∧
  ∀ i, i < ns → (O 301 i = 0 ∨ O 301 i = 1) ∧ (O 300 i = -1 ∨ 0 ≤ O 300 i) ∧ -1 ≤ O 298 i ∧ O 298 i < n
def Inv (S : Sst) (O : Smo) : Prop := ∃ (n ne slots : Nat) (lo : Nat → Nat) (v tp bs : Nat), ITape S O ∧ ILie S O ∧ ILex S O ∧ IPlan S O n ne slots lo ∧ IVer S O n ne slots v tp bs ∧ IAct S O n ne v tp bs ∧ IBox S O n ne slots ∧ ITold S O n
-- each needs but some of the two states
theorem RepS_row {p : Nat} {S S' : Sst} {g : Sg} {w : Nat → Int} {slots v : Nat} {A : Nat → Int} (h : RepS p S g w slots A v) (e : ∀ k, p < k → k ≤ p + 31 → S'.1 k = S.1 k) : RepS p S' g w slots A v := by
  obtain ⟨r1, r2, r3, r4, r5, r6, r7, r8, r9⟩ := h
  refine ⟨by rw [e _ (by omega) (by omega)]; exact r1, by rw [e _ (by omega) (by omega)]; exact r2, by rw [e _ (by omega) (by omega)]; exact r3, by rw [e _ (by omega) (by omega)]; exact r4, by rw [e _ (by omega) (by omega)]; exact r5, by rw [e _ (by omega) (by omega)]; exact r6, fun j hj => ?_, fun j hj => ?_, by rw [e _ (by omega) (by omega)]; exact r9⟩
  · rw [e _ (by omega) (by omega)]; exact r7 j hj
  · rw [e _ (by omega) (by omega)]; exact r8 j hj
section FRAMES
variable {S S' : Sst} {O O' : Smo} {n ne slots v tp bs : Nat} {lo : Nat → Nat}
theorem ITape_fr (h : ITape S O) (e1 : S'.1 1 = S.1 1) (e2 : O' 263 = O 263) (e3 : O' 262 1 = O 262 1) : ITape S' O' := by
  unfold ITape at *
  rw [e1, e2, e3]; exact h
theorem ILie_fr (h : ILie S O) (e1 : S'.1 3 = S.1 3) (e2 : O' 292 = O 292) (e3 : O' 262 62 = O 262 62) : ILie S' O' := by
  unfold ILie at *
  rw [e1, e2, e3]; exact h
theorem ILex_fr (h : ILex S O) (e1 : S'.2 53 2 = S.2 53 2 ∧ S'.2 53 3 = S.2 53 3 ∧ S'.2 53 6 = S.2 53 6) (e2 : ∀ i, S'.2 54 i = S.2 54 i) (e3 : O' 262 2 = O 262 2 ∧ O' 262 3 = O 262 3) : ILex S' O' := by
  unfold ILex at *
  rw [e1.1, e1.2.1, e1.2.2, e3.1, e3.2]
  exact ⟨h.1, h.2.1, h.2.2.1, h.2.2.2.1, fun i hi => by rw [e2]; exact h.2.2.2.2 i hi⟩
theorem sgO_fr (e : ∀ k, 276 ≤ k → k ≤ 281 → O' k = O k) : sgO O' = sgO O := by
  unfold sgO
  rw [e 276 (by decide) (by decide), e 277 (by decide) (by decide), e 278 (by decide) (by decide), e 279 (by decide) (by decide)]
theorem IPlan_fr (h : IPlan S O n ne slots lo) (e1 : ∀ k, 30 ≤ k → k ≤ 46 → S'.1 k = S.1 k) (e2 : S'.2 29 10 = S.2 29 10 ∧ S'.2 29 11 = S.2 29 11) (e3 : ∀ k, 276 ≤ k → k ≤ 281 → O' k = O k) (e4 : O' 262 39 = O 262 39 ∧ O' 262 45 = O 262 45 ∧ O' 262 40 = O 262 40 ∧ O' 262 20 = O 262 20) : IPlan S' O' n ne slots lo := by
  obtain ⟨⟨⟨p1, p2, p3, p4, p5, p6⟩, q2, q3, q4, q5, q6⟩, h2, h3, h4, h5, h6, h7, h8⟩ := h
  unfold IPlan
  rw [sgO_fr e3, e3 280 (by decide) (by decide), e3 281 (by decide) (by decide), e4.1, e4.2.1, e4.2.2.1, e4.2.2.2, e2.1]
  refine ⟨⟨⟨?_, ?_, ?_, ?_, ?_, ?_⟩, ?_, ?_, ?_, by rw [e2.2]; exact q5, q6⟩, h2, h3, h4, h5, h6, h7, h8⟩
  · rw [e1 _ (by decide) (by decide)]; exact p1
  · rw [e1 _ (by decide) (by decide)]; exact p2
  · rw [e1 _ (by decide) (by decide)]; exact p3
  · rw [e1 _ (by decide) (by decide)]; exact p4
  · rw [e1 _ (by decide) (by decide)]; exact p5
  · rw [e1 _ (by decide) (by decide)]; exact p6
  · rw [e1 _ (by decide) (by decide)]; exact q2
  · rw [e1 _ (by decide) (by decide)]; exact q3
  · rw [e1 _ (by decide) (by decide)]; exact q4
theorem IVer_fr (h : IVer S O n ne slots v tp bs) (e1 : ∀ k, 74 < k → k ≤ 105 → S'.1 k = S.1 k) (e3 : ∀ k, 276 ≤ k → k ≤ 281 → O' k = O k) (e4 : O' 282 = O 282) (e5 : O' 262 47 = O 262 47 ∧ O' 262 48 = O 262 48 ∧ O' 262 49 = O 262 49) : IVer S' O' n ne slots v tp bs := by
  obtain ⟨h1, h2, h3, h4, h5, h6⟩ := h
  unfold IVer
  rw [sgO_fr e3, e3 280 (by decide) (by decide), e3 281 (by decide) (by decide), e4, e5.1, e5.2.1, e5.2.2]
  exact ⟨h1, h2, h3, h4, h5, RepS_row h6 e1⟩
theorem IAct_fr (h : IAct S O n ne v tp bs) (e1 : S'.2 239 1 = S.2 239 1) (e2 : S'.1 240 = S.1 240) (e3 : ∀ k, 276 ≤ k → k ≤ 281 → O' k = O k) (e4 : O' 282 = O 282) : IAct S' O' n ne v tp bs := by
  unfold IAct at *
  rw [sgO_fr e3, e3 281 (by decide) (by decide), e4, e1, e2]
  exact h
theorem IBox_fr (h : IBox S O n ne slots) (e1 : ∀ k, 140 < k → k ≤ 237 → S'.1 k = S.1 k) (e2 : ∀ b, b < 3 → S'.2 (140 + 33 * b) 16 = S.2 (140 + 33 * b) 16) (e3 : ∀ k, 276 ≤ k → k ≤ 281 → O' k = O k) (e4 : ∀ k, 304 ≤ k → k ≤ 306 → O' k = O k) : IBox S' O' n ne slots := by
  intro b hb
  have := h b hb
  unfold boxA at *
  rw [sgO_fr e3, e3 280 (by decide) (by decide), e3 281 (by decide) (by decide), e4 304 (by decide) (by decide), e4 305 (by decide) (by decide), e4 306 (by decide) (by decide), e2 b hb]
  refine ⟨this.1, this.2.imp id ?_⟩
  rintro ⟨a, vb, b1, b2, b3, b4⟩
  exact ⟨a, vb, b1, b2, b3, RepS_row b4 (fun k h1 h2 => e1 k (by omega) (by omega))⟩
theorem ITold_fr (h : ITold S O n) (e1 : ∀ k, 254 ≤ k → k ≤ 260 → S'.1 k = S.1 k) (e2 : S'.2 249 2 = S.2 249 2) (e3 : ∀ k, 298 ≤ k → k ≤ 301 → O' k = O k) (e4 : O' 262 73 = O 262 73 ∧ O' 262 74 = O 262 74) (e0 : ∀ i, 7565 ≤ i → O' 282 i = O 282 i) : ITold S' O' n := by
  refine ⟨fun i hi => by rw [e0 i hi]; exact h.1 i hi, ?_⟩
  replace h := h.2
  rw [e1 254 (by decide) (by decide), e1 256 (by decide) (by decide), e1 258 (by decide) (by decide), e1 260 (by decide) (by decide), e2, e3 298 (by decide) (by decide), e3 299 (by decide) (by decide), e3 300 (by decide) (by decide), e3 301 (by decide) (by decide), e4.1, e4.2]
  exact h
/-- what a query may change -/
def FrQ (S S' : Sst) : Prop := (∀ k, ¬ (60 ≤ k ∧ k ≤ 73) → ¬ (107 ≤ k ∧ k ≤ 139) → ¬ (243 ≤ k ∧ k ≤ 248) → ¬ (250 ≤ k ∧ k ≤ 253) → S'.1 k = S.1 k) ∧ ∀ k j, k ≠ 59 → k ≠ 242 → S'.2 k j = S.2 k j
def FrR (O O' : Smo) : Prop := (∀ k, k ≠ 262 → ¬ (283 ≤ k ∧ k ≤ 291) → ¬ (293 ≤ k ∧ k ≤ 297) → k ≠ 302 → k ≠ 303 → O' k = O k) ∧ ∀ j, j ≠ 58 → j ≠ 59 → j ≠ 67 → O' 262 j = O 262 j
theorem FrQ_refl (S : Sst) : FrQ S S := ⟨fun _ _ _ _ _ => rfl, fun _ _ _ _ => rfl⟩
theorem FrR_refl (O : Smo) : FrR O O := ⟨fun _ _ _ _ _ _ => rfl, fun _ _ _ _ => rfl⟩
theorem FrQ_trans {S'' : Sst} (h1 : FrQ S S') (h2 : FrQ S' S'') : FrQ S S'' := ⟨fun k a b c d => by rw [h2.1 k a b c d, h1.1 k a b c d], fun k j a b => by rw [h2.2 k j a b, h1.2 k j a b]⟩
theorem FrR_trans {O'' : Smo} (h1 : FrR O O') (h2 : FrR O' O'') : FrR O O'' := ⟨fun k a b c d e => by rw [h2.1 k a b c d e, h1.1 k a b c d e], fun j a b c => by rw [h2.2 j a b c, h1.2 j a b c]⟩
theorem Inv_lie (h : Inv S O) (hQ : ∀ k, k ≠ 3 → ¬ (60 ≤ k ∧ k ≤ 73) → ¬ (107 ≤ k ∧ k ≤ 139) → ¬ (243 ≤ k ∧ k ≤ 248) → ¬ (250 ≤ k ∧ k ≤ 253) → S'.1 k = S.1 k) (hQ2 : ∀ k j, k ≠ 59 → k ≠ 242 → S'.2 k j = S.2 k j)
    (hR : ∀ k, k ≠ 262 → ¬ (283 ≤ k ∧ k ≤ 291) → ¬ (292 ≤ k ∧ k ≤ 297) → k ≠ 302 → k ≠ 303 → O' k = O k) (hR2 : ∀ j, j ≠ 58 → j ≠ 59 → j ≠ 67 → j ≠ 62 → O' 262 j = O 262 j) (hL : ILie S' O') : Inv S' O' := by
  obtain ⟨n, ne, slots, lo, v, tp, bs, h1, h2, h3, h4, h5, h6, h7, h8⟩ := h
  have o : ∀ k, 276 ≤ k → k ≤ 281 → O' k = O k := fun k a b => hR k (by omega) (by omega) (by omega) (by omega) (by omega)
  have i : ∀ j, j ≠ 58 → j ≠ 59 → j ≠ 67 → j ≠ 62 → O' 262 j = O 262 j := hR2
  refine ⟨n, ne, slots, lo, v, tp, bs, ITape_fr h1 (hQ _ (by omega) (by omega) (by omega) (by omega) (by omega)) (hR _ (by omega) (by omega) (by omega) (by omega) (by omega)) (i _ (by omega) (by omega) (by omega) (by omega)), hL, ILex_fr h3 ⟨hQ2 _ _ (by omega) (by omega), hQ2 _ _ (by omega) (by omega), hQ2 _ _ (by omega) (by omega)⟩ (fun _ => hQ2 _ _ (by omega) (by omega)) ⟨i _ (by omega) (by omega) (by omega) (by omega), i _ (by omega) (by omega) (by omega) (by omega)⟩,
    IPlan_fr h4 (fun k a b => hQ _ (by omega) (by omega) (by omega) (by omega) (by omega)) ⟨hQ2 _ _ (by omega) (by omega), hQ2 _ _ (by omega) (by omega)⟩ o ⟨i _ (by omega) (by omega) (by omega) (by omega), i _ (by omega) (by omega) (by omega) (by omega), i _ (by omega) (by omega) (by omega) (by omega), i _ (by omega) (by omega) (by omega) (by omega)⟩,
    IVer_fr h5 (fun k a b => hQ _ (by omega) (by omega) (by omega) (by omega) (by omega)) o (hR _ (by omega) (by omega) (by omega) (by omega) (by omega)) ⟨i _ (by omega) (by omega) (by omega) (by omega), i _ (by omega) (by omega) (by omega) (by omega), i _ (by omega) (by omega) (by omega) (by omega)⟩,
    IAct_fr h6 (hQ2 _ _ (by omega) (by omega)) (hQ _ (by omega) (by omega) (by omega) (by omega) (by omega)) o (hR _ (by omega) (by omega) (by omega) (by omega) (by omega)),
    IBox_fr h7 (fun k a b => hQ _ (by omega) (by omega) (by omega) (by omega) (by omega)) (fun b hb => hQ2 _ _ (by omega) (by omega)) o (fun k a b => hR _ (by omega) (by omega) (by omega) (by omega) (by omega)),
    ITold_fr h8 (fun k a b => hQ _ (by omega) (by omega) (by omega) (by omega) (by omega)) (hQ2 _ _ (by omega) (by omega)) (fun k a b => hR _ (by omega) (by omega) (by omega) (by omega) (by omega)) ⟨i _ (by omega) (by omega) (by omega) (by omega), i _ (by omega) (by omega) (by omega) (by omega)⟩ (fun i _ => by rw [hR 282 (by omega) (by omega) (by omega) (by omega) (by omega)])⟩
theorem Inv_fr (h : Inv S O) (hQ : FrQ S S') (hR : FrR O O') : Inv S' O' := by
  refine Inv_lie h (fun k _ a b c d => hQ.1 k a b c d) hQ.2 (fun k a b c d e => hR.1 k a b (by omega) d e) (fun j a b c _ => hR.2 j a b c) ?_
  obtain ⟨n, ne, slots, lo, v, tp, bs, h1, h2, _⟩ := h
  exact ILie_fr h2 (hQ.1 _ (by omega) (by omega) (by omega) (by omega)) (hR.1 _ (by omega) (by omega) (by omega) (by omega) (by omega)) (hR.2 _ (by omega) (by omega) (by omega))
end FRAMES
