/-! LEVEL 3, c: the plan's functions on both sides -/
theorem Ln2 : Ln 2 = 1600 := by decide +kernel
theorem Ln4 : Ln 4 = 8 := by decide +kernel
theorem Ln7 : Ln 7 = 8 := by decide +kernel
theorem Ln9 : Ln 9 = 8 := by decide +kernel
theorem Ln11 : Ln 11 = 8 := by decide +kernel
theorem Ln13 : Ln 13 = 8 := by decide +kernel
theorem Ln15 : Ln 15 = 8 := by decide +kernel
theorem Ln17 : Ln 17 = 8 := by decide +kernel
theorem Ln19 : Ln 19 = 8 := by decide +kernel
theorem Ln21 : Ln 21 = 8 := by decide +kernel
theorem Ln23 : Ln 23 = 16 := by decide +kernel
theorem Ln26 : Ln 26 = 300 := by decide +kernel
theorem Ln28 : Ln 28 = 64 := by decide +kernel
theorem Ln31 : Ln 31 = 8 := by decide +kernel
theorem Ln33 : Ln 33 = 8 := by decide +kernel
theorem Ln35 : Ln 35 = 8 := by decide +kernel
theorem Ln37 : Ln 37 = 8 := by decide +kernel
theorem Ln39 : Ln 39 = 8 := by decide +kernel
theorem Ln41 : Ln 41 = 8 := by decide +kernel
theorem Ln43 : Ln 43 = 8 := by decide +kernel
theorem Ln45 : Ln 45 = 8 := by decide +kernel
theorem Ln47 : Ln 47 = 16 := by decide +kernel
theorem Ln50 : Ln 50 = 300 := by decide +kernel
theorem Ln52 : Ln 52 = 64 := by decide +kernel
theorem Ln54 : Ln 54 = 22 := by decide +kernel
theorem Ln58 : Ln 58 = 64 := by decide +kernel
theorem Ln61 : Ln 61 = 8 := by decide +kernel
theorem Ln63 : Ln 63 = 8 := by decide +kernel
theorem Ln65 : Ln 65 = 8 := by decide +kernel
theorem Ln67 : Ln 67 = 8 := by decide +kernel
theorem Ln69 : Ln 69 = 8 := by decide +kernel
theorem Ln71 : Ln 71 = 8 := by decide +kernel
theorem Ln73 : Ln 73 = 8 := by decide +kernel
theorem Ln76 : Ln 76 = 41 := by decide +kernel
theorem Ln78 : Ln 78 = 41 := by decide +kernel
theorem Ln80 : Ln 80 = 41 := by decide +kernel
theorem Ln82 : Ln 82 = 41 := by decide +kernel
theorem Ln84 : Ln 84 = 41 := by decide +kernel
theorem Ln86 : Ln 86 = 41 := by decide +kernel
theorem Ln88 : Ln 88 = 320 := by decide +kernel
theorem Ln90 : Ln 90 = 320 := by decide +kernel
theorem Ln92 : Ln 92 = 320 := by decide +kernel
theorem Ln94 : Ln 94 = 320 := by decide +kernel
theorem Ln96 : Ln 96 = 320 := by decide +kernel
theorem Ln98 : Ln 98 = 320 := by decide +kernel
theorem Ln100 : Ln 100 = 1920 := by decide +kernel
theorem Ln102 : Ln 102 = 1920 := by decide +kernel
theorem Ln104 : Ln 104 = 1920 := by decide +kernel
theorem Ln106 : Ln 106 = 8 := by decide +kernel
theorem Ln109 : Ln 109 = 41 := by decide +kernel
theorem Ln111 : Ln 111 = 41 := by decide +kernel
theorem Ln113 : Ln 113 = 41 := by decide +kernel
theorem Ln115 : Ln 115 = 41 := by decide +kernel
theorem Ln117 : Ln 117 = 41 := by decide +kernel
theorem Ln119 : Ln 119 = 41 := by decide +kernel
theorem Ln121 : Ln 121 = 320 := by decide +kernel
theorem Ln123 : Ln 123 = 320 := by decide +kernel
theorem Ln125 : Ln 125 = 320 := by decide +kernel
theorem Ln127 : Ln 127 = 320 := by decide +kernel
theorem Ln129 : Ln 129 = 320 := by decide +kernel
theorem Ln131 : Ln 131 = 320 := by decide +kernel
theorem Ln133 : Ln 133 = 1920 := by decide +kernel
theorem Ln135 : Ln 135 = 1920 := by decide +kernel
theorem Ln137 : Ln 137 = 1920 := by decide +kernel
theorem Ln139 : Ln 139 = 8 := by decide +kernel
theorem Ln142 : Ln 142 = 41 := by decide +kernel
theorem Ln144 : Ln 144 = 41 := by decide +kernel
theorem Ln146 : Ln 146 = 41 := by decide +kernel
theorem Ln148 : Ln 148 = 41 := by decide +kernel
theorem Ln150 : Ln 150 = 41 := by decide +kernel
theorem Ln152 : Ln 152 = 41 := by decide +kernel
theorem Ln154 : Ln 154 = 320 := by decide +kernel
theorem Ln156 : Ln 156 = 320 := by decide +kernel
theorem Ln158 : Ln 158 = 320 := by decide +kernel
theorem Ln160 : Ln 160 = 320 := by decide +kernel
theorem Ln162 : Ln 162 = 320 := by decide +kernel
theorem Ln164 : Ln 164 = 320 := by decide +kernel
theorem Ln166 : Ln 166 = 1920 := by decide +kernel
theorem Ln168 : Ln 168 = 1920 := by decide +kernel
theorem Ln170 : Ln 170 = 1920 := by decide +kernel
theorem Ln172 : Ln 172 = 8 := by decide +kernel
theorem Ln175 : Ln 175 = 41 := by decide +kernel
theorem Ln177 : Ln 177 = 41 := by decide +kernel
theorem Ln179 : Ln 179 = 41 := by decide +kernel
theorem Ln181 : Ln 181 = 41 := by decide +kernel
theorem Ln183 : Ln 183 = 41 := by decide +kernel
theorem Ln185 : Ln 185 = 41 := by decide +kernel
theorem Ln187 : Ln 187 = 320 := by decide +kernel
theorem Ln189 : Ln 189 = 320 := by decide +kernel
theorem Ln191 : Ln 191 = 320 := by decide +kernel
theorem Ln193 : Ln 193 = 320 := by decide +kernel
theorem Ln195 : Ln 195 = 320 := by decide +kernel
theorem Ln197 : Ln 197 = 320 := by decide +kernel
theorem Ln199 : Ln 199 = 1920 := by decide +kernel
theorem Ln201 : Ln 201 = 1920 := by decide +kernel
theorem Ln203 : Ln 203 = 1920 := by decide +kernel
theorem Ln205 : Ln 205 = 8 := by decide +kernel
theorem Ln208 : Ln 208 = 41 := by decide +kernel
theorem Ln210 : Ln 210 = 41 := by decide +kernel
theorem Ln212 : Ln 212 = 41 := by decide +kernel
theorem Ln214 : Ln 214 = 41 := by decide +kernel
theorem Ln216 : Ln 216 = 41 := by decide +kernel
theorem Ln218 : Ln 218 = 41 := by decide +kernel
theorem Ln220 : Ln 220 = 320 := by decide +kernel
theorem Ln222 : Ln 222 = 320 := by decide +kernel
theorem Ln224 : Ln 224 = 320 := by decide +kernel
theorem Ln226 : Ln 226 = 320 := by decide +kernel
theorem Ln228 : Ln 228 = 320 := by decide +kernel
theorem Ln230 : Ln 230 = 320 := by decide +kernel
theorem Ln232 : Ln 232 = 1920 := by decide +kernel
theorem Ln234 : Ln 234 = 1920 := by decide +kernel
theorem Ln236 : Ln 236 = 1920 := by decide +kernel
theorem Ln238 : Ln 238 = 8 := by decide +kernel
theorem Ln241 : Ln 241 = 40 := by decide +kernel
theorem Ln244 : Ln 244 = 9 := by decide +kernel
theorem Ln246 : Ln 246 = 8 := by decide +kernel
theorem Ln248 : Ln 248 = 8 := by decide +kernel
theorem Ln251 : Ln 251 = 61 := by decide +kernel
theorem Ln253 : Ln 253 = 61 := by decide +kernel
theorem Ln255 : Ln 255 = 30 := by decide +kernel
theorem Ln257 : Ln 257 = 30 := by decide +kernel
theorem Ln259 : Ln 259 = 30 := by decide +kernel
theorem Ln261 : Ln 261 = 30 := by decide +kernel
theorem Ln263 : Ln 263 = 1600 := by decide +kernel
theorem Ln264 : Ln 264 = 320 := by decide +kernel
theorem Ln265 : Ln 265 = 320 := by decide +kernel
theorem Ln266 : Ln 266 = 320 := by decide +kernel
theorem Ln267 : Ln 267 = 320 := by decide +kernel
theorem Ln268 : Ln 268 = 160 := by decide +kernel
theorem Ln269 : Ln 269 = 64 := by decide +kernel
theorem Ln270 : Ln 270 = 5 := by decide +kernel
theorem Ln271 : Ln 271 = 8 := by decide +kernel
theorem Ln272 : Ln 272 = 8 := by decide +kernel
theorem Ln273 : Ln 273 = 8 := by decide +kernel
theorem Ln274 : Ln 274 = 8 := by decide +kernel
theorem Ln275 : Ln 275 = 8 := by decide +kernel
theorem Ln276 : Ln 276 = 8 := by decide +kernel
theorem Ln277 : Ln 277 = 8 := by decide +kernel
theorem Ln278 : Ln 278 = 8 := by decide +kernel
theorem Ln279 : Ln 279 = 8 := by decide +kernel
theorem Ln280 : Ln 280 = 8 := by decide +kernel
theorem Ln281 : Ln 281 = 16 := by decide +kernel
theorem Ln282 : Ln 282 = 7565 := by decide +kernel
theorem Ln283 : Ln 283 = 8 := by decide +kernel
theorem Ln284 : Ln 284 = 8 := by decide +kernel
theorem Ln285 : Ln 285 = 8 := by decide +kernel
theorem Ln286 : Ln 286 = 8 := by decide +kernel
theorem Ln287 : Ln 287 = 16 := by decide +kernel
theorem Ln288 : Ln 288 = 8 := by decide +kernel
theorem Ln289 : Ln 289 = 8 := by decide +kernel
theorem Ln290 : Ln 290 = 8 := by decide +kernel
theorem Ln291 : Ln 291 = 8 := by decide +kernel
theorem Ln292 : Ln 292 = 8 := by decide +kernel
theorem Ln293 : Ln 293 = 8 := by decide +kernel
theorem Ln294 : Ln 294 = 8 := by decide +kernel
theorem Ln295 : Ln 295 = 8 := by decide +kernel
theorem Ln296 : Ln 296 = 8 := by decide +kernel
theorem Ln297 : Ln 297 = 9 := by decide +kernel
theorem Ln298 : Ln 298 = 30 := by decide +kernel
theorem Ln299 : Ln 299 = 30 := by decide +kernel
theorem Ln300 : Ln 300 = 30 := by decide +kernel
theorem Ln301 : Ln 301 = 30 := by decide +kernel
theorem Ln302 : Ln 302 = 61 := by decide +kernel
theorem Ln303 : Ln 303 = 61 := by decide +kernel
theorem Ln304 : Ln 304 = 3 := by decide +kernel
theorem Ln305 : Ln 305 = 22695 := by decide +kernel
theorem Ln306 : Ln 306 = 3 := by decide +kernel
def RPl (p : Nat) (S : Sst) (g : Sg) (n : Nat) : Prop := S.1 (p + 1) = rg n (sga g) ∧ S.1 (p + 3) = rg n (sgu g) ∧ S.1 (p + 5) = rg n (sgb g) ∧ S.1 (p + 7) = rg n (sgv g) ∧ S.1 (p + 9) = rg n (gW g) ∧ S.1 (p + 11) = rg n (gR g)
theorem at_nat {S : Sst} {q n k : Nat} {f : Nat → Int} (h : S.1 q = rg n f) (hk : k < n) : f_X6_at q (k : Int) S = f k := by
  unfold f_X6_at
  rw [h, lat_nat hk]
theorem at_int {S : Sst} {q n : Nat} {f : Nat → Int} {z : Int} (h : S.1 q = rg n f) (h0 : 0 ≤ z) (h1 : z < n) : f_X6_at q z S = f z.toNat := by
  unfold f_X6_at
  rw [h, lat_rg h0 h1]
theorem at_out {S : Sst} {q n : Nat} {f : Nat → Int} {z : Int} (h : S.1 q = rg n f) (h0 : z < 0 ∨ (n : Int) ≤ z) : f_X6_at q z S = -1 := by
  unfold f_X6_at
  rw [h, lat_out h0]
theorem size_rg {S : Sst} {q n : Nat} {f : Nat → Int} (h : S.1 q = rg n f) : f_X6_size q S = n := by
  unfold f_X6_size
  rw [h, rg_len]
section PLANC
variable {p : Nat} {S : Sst} {g : Sg} {n : Nat}
theorem pl_count (h : RPl p S g n) : f_X4_count p S = n := size_rg h.1
theorem pl_has (h : RPl p S g n) (z : Int) : f_X4_has p z S = if 0 ≤ z ∧ z < n then 1 else 0 := by
  unfold f_X4_has
  rw [size_rg h.1]
  by_cases c : 0 ≤ z ∧ z < n
  · rw [if_pos c, if_neg (by omega)]
  · rw [if_neg c, if_pos (by omega)]
theorem pl_ahead (h : RPl p S g n) {i : Nat} (hi : i < n) (hb : SegB g i) {x up : Int} (hx : 0 ≤ x ∧ x ≤ 60) (hu : -9 ≤ up ∧ up ≤ 99) : f_X4_aheadOf p i x up S = gA g i x up := by
  obtain ⟨h1, h2, h3, h4, h5, h6⟩ := h
  have w := gW_pos hb
  have r := gR_bd hb
  have bb := hb
  unfold SegB at bb
  have b1 := mbd (x := gR g i) (y := x - sga g i) (c := 60) (d := 60) (by omega) (by omega)
  have b2 := mbd (x := sgu g i - up) (y := gW g i) (c := 99) (d := 60) (by omega) (by omega)
  unfold f_X4_aheadOf
  dsimp only [jn]
  rw [at_nat h6 hi, at_nat h1 hi, at_nat h2 hi, at_nat h5 hi]
  rw [wr_id (z := x - sga g i) (by omega) (by omega), wr_id (z := sgu g i - up) (by omega) (by omega), wr_id (z := gR g i * (x - sga g i)) (by omega) (by omega), wr_id (z := (sgu g i - up) * gW g i) (by omega) (by omega), wr_id (by omega) (by omega)]
  unfold gA gF
  rw [Int.sub_mul]
  omega
theorem pl_cmp (h : RPl p S g n) {i j : Nat} (hi : i < n) (hj : j < n) (hb : SegB g i) (hb' : SegB g j) {x : Int} (hx : 0 ≤ x ∧ x ≤ 60) :
    f_X4_comparedAt p i j x S = if gD g i j x < 0 then -1 else if gD g i j x = 0 then 0 else 1 := by
  have e1 : ∀ k, gA g k x 0 = gF g k x := fun k => by unfold gA; omega
  have b1 := gFW_bd hb hb' hx
  have b2 := gFW_bd hb' hb hx
  unfold f_X4_comparedAt f_J6_compare_7cf53
  dsimp only [jn]
  rw [pl_ahead h hi hb hx (by omega), pl_ahead h hj hb' hx (by omega), at_nat h.2.2.2.2.1 hi, at_nat h.2.2.2.2.1 hj, e1, e1, wr_id (by omega) (by omega), wr_id (by omega) (by omega)]
  unfold gD
  (repeat' split) <;> omega
theorem pl_steep (h : RPl p S g n) {i j : Nat} (hi : i < n) (hj : j < n) (hb : SegB g i) (hb' : SegB g j) : f_X4_isSteeper p i j S = if 0 < gS g i j then 1 else 0 := by
  have b1 := gRW_bd hb hb'
  have b2 := gRW_bd hb' hb
  unfold f_X4_isSteeper gS
  rw [at_nat h.2.2.2.2.2 hi, at_nat h.2.2.2.2.2 hj, at_nat h.2.2.2.2.1 hi, at_nat h.2.2.2.2.1 hj, wr_id (by omega) (by omega), wr_id (by omega) (by omega)]
  by_cases c : gR g j * gW g i < gR g i * gW g j
  · rw [if_pos c, if_pos (by omega)]
  · rw [if_neg c, if_neg (by omega)]
theorem pl_over (h : RPl p S g n) {i : Nat} (hi : i < n) (x : Int) : f_X4_isOver p i x S = if sga g i ≤ x ∧ x < sgb g i then 1 else 0 := by
  unfold f_X4_isOver
  rw [pl_has h, if_pos (show 0 ≤ (i : Int) ∧ (i : Int) < n by omega), at_nat h.1 hi, at_nat h.2.2.1 hi]
  by_cases c : sga g i ≤ x ∧ x < sgb g i
  · rw [if_pos c, if_neg (by omega)]
  · rw [if_neg c, if_pos (by omega)]
theorem pl_over_out (h : RPl p S g n) {z : Int} (hz : ¬ (0 ≤ z ∧ z < n)) (x : Int) : f_X4_isOver p z x S = 0 := by
  unfold f_X4_isOver
  rw [pl_has h, if_neg hz, if_pos (Or.inl (Or.inl rfl))]
theorem max_lo (g : Sg) (i j : Nat) : f_J9_max_7cf53 (sga g i) (sga g j) = gLo g i j := rfl
theorem min_hi (g : Sg) (i j : Nat) : f_J9_min_7cf53 (sgb g i) (sgb g j) = gHi g i j := rfl
/-- bits of what is lower than a segment where both begin -/
def lowB (g : Sg) (n i : Nat) (m : Nat) : Prop := m < 256 ∧ ∀ k, m.testBit k = true ↔ k < n ∧ k ≠ i ∧ ovP g i (gLo g i k) ∧ ovP g k (gLo g i k) ∧ hiP g i k (gLo g i k)
theorem pl_lower (h : RPl p S g n) (hn : n ≤ 8) (hb : ∀ k, k < n → SegB g k) {i : Nat} (hi : i < n) : Ret (f_X4_findLowerOnes p i S) (fun r => ∃ m : Nat, r = (m : Int) ∧ lowB g n i m) := by
  unfold f_X4_findLowerOnes
  refine Ret_bind (Ret_lp (fun c s => s.2 = (c : Int) ∧ ∃ m : Nat, s.1 = (m : Int) ∧ m < 256 ∧ ∀ k, m.testBit k = true ↔ k < c ∧ k ≠ i ∧ ovP g i (gLo g i k) ∧ ovP g k (gLo g i k) ∧ hiP g i k (gLo g i k)) n (by omega) ⟨rfl, 0, rfl, by decide, fun k => by simp⟩ (fun c s hc hs => ?_) (fun s hs => ?_) (Q := fun r => ∃ m : Nat, r = (m : Int) ∧ lowB g n i m)) (fun r hr => Ret_some hr)
  · obtain ⟨a, b⟩ := s
    obtain ⟨rfl, m, rfl, hm, hk⟩ := hs
    have hb1 := hb i hi
    have hb2 := hb c hc
    have bx : 0 ≤ gLo g i c ∧ gLo g i c ≤ 60 := by
      unfold SegB at hb1 hb2
      unfold gLo
      split <;> omega
    dsimp only
    dsimp only [jn]
    rw [pl_count h, if_pos (by omega)]
    rw [at_nat h.1 hi, at_nat h.1 hc, max_lo]
    rw [pl_over h hi, pl_over h hc, pl_cmp h hi hc hb1 hb2 bx, pl_steep h hi hc hb1 hb2, wr_id (by omega) (by omega)]
    refine Ret_some ⟨_, rfl, by simp, ?_⟩
    dsimp only
    by_cases c1 : c = i
    · subst c1
      rw [if_pos (Or.inl (Or.inl rfl))]
      refine ⟨m, rfl, hm, fun k => ?_⟩
      rw [hk]
      constructor
      · rintro ⟨q1, q2⟩; exact ⟨by omega, q2⟩
      · rintro ⟨q1, q2⟩; exact ⟨by omega, q2⟩
    · by_cases c2 : ovP g i (gLo g i c) ∧ ovP g c (gLo g i c)
      · have c2' := c2
        obtain ⟨o1, o2⟩ := c2
        unfold ovP at o1 o2
        rw [if_neg (by rw [if_pos o1, if_pos o2]; omega)]
        by_cases c3 : hiP g i c (gLo g i c)
        · rw [if_neg (c := _ = 0) (by unfold hiP at c3; split <;> split <;> (try split) <;> omega), or_n hm (by omega)]
          refine ⟨_, rfl, put1_lt hm (by omega), fun k => ?_⟩
          rw [put1_tb hm (by omega), Bool.or_eq_true, hk, decide_eq_true_iff]
          constructor
          · rintro (⟨q1, q2⟩ | rfl)
            · exact ⟨by omega, q2⟩
            · exact ⟨by omega, c1, c2'.1, c2'.2, c3⟩
          · rintro ⟨q1, q2⟩
            by_cases e : k = c
            · exact Or.inr e
            · exact Or.inl ⟨by omega, q2⟩
        · rw [if_pos (c := _ = 0) (by unfold hiP at c3; split <;> split <;> (try split) <;> omega)]
          have e0 : zor (m : Int) 0 = m := by
            unfold zor
            rw [show zi 0 = 0 from rfl, Int32.or_zero, zi_t ⟨by omega, by omega⟩]
          rw [e0]
          refine ⟨m, rfl, hm, fun k => ?_⟩
          rw [hk]
          constructor
          · rintro ⟨q1, q2⟩; exact ⟨by omega, q2⟩
          · rintro ⟨q1, q2⟩
            by_cases e : k = c
            · subst e; exact absurd q2.2.2.2 c3
            · exact ⟨by omega, q2⟩
      · rw [if_pos (by unfold ovP at c2; by_cases o1 : sga g i ≤ gLo g i c ∧ gLo g i c < sgb g i
                       · rw [if_pos o1, if_neg (fun o2 => c2 ⟨o1, o2⟩)]; exact Or.inr rfl
                       · rw [if_neg o1]; exact Or.inl (Or.inr rfl))]
        refine ⟨m, rfl, hm, fun k => ?_⟩
        rw [hk]
        constructor
        · rintro ⟨q1, q2⟩; exact ⟨by omega, q2⟩
        · rintro ⟨q1, q2⟩
          by_cases e : k = c
          · subst e; exact absurd ⟨q2.2.1, q2.2.2.1⟩ c2
          · exact ⟨by omega, q2⟩
  · obtain ⟨a, b⟩ := s
    obtain ⟨rfl, m, rfl, hm, hk⟩ := hs
    dsimp only
    rw [pl_count h, if_neg (by omega)]
    exact Ret_some ⟨_, rfl, m, rfl, hm, hk⟩
end PLANC
-- the reference
def sgO (O : Smo) : Sg := (O 276, O 277, O 278, O 279)
theorem rf_far {O : Smo} {i : Nat} (hi : i < 8) (hb : SegB (sgO O) i) {x up : Int} (hx : 0 ≤ x ∧ x ≤ 60) (hu : -9 ≤ up ∧ up ≤ 99) : f_X12_farther i x up O = some (gA (sgO O) i x up) := by
  have w := gW_pos hb
  have r := gR_bd hb
  have bb := hb
  unfold SegB at bb
  have b1 := mbd (x := gR (sgO O) i) (y := x - sga (sgO O) i) (c := 60) (d := 60) (by omega) (by omega)
  have b2 := mbd (x := sgu (sgO O) i) (y := gW (sgO O) i) (c := 99) (d := 60) (by omega) (by omega)
  have b3 := mbd (x := up) (y := gW (sgO O) i) (c := 99) (d := 60) (by omega) (by omega)
  unfold f_X12_farther
  rw [Ln278, Ln276, Ln277, Ln279, aget_nat hi, aget_nat hi, aget_nat hi, aget_nat hi]
  dsimp only [Option.bind_some, jn]
  have e1 : O 278 i - O 276 i = gW (sgO O) i := rfl
  have e2 : O 279 i - O 277 i = gR (sgO O) i := rfl
  have e3 : O 276 i = sga (sgO O) i := rfl
  have e4 : O 277 i = sgu (sgO O) i := rfl
  rw [e1, e2, e3, e4]
  rw [wr_id (z := gW (sgO O) i) (by omega) (by omega), wr_id (z := gR (sgO O) i) (by omega) (by omega), wr_id (z := x - sga (sgO O) i) (by omega) (by omega), wr_id (z := sgu (sgO O) i * gW (sgO O) i) (by omega) (by omega), wr_id (z := gR (sgO O) i * (x - sga (sgO O) i)) (by omega) (by omega), wr_id (z := up * gW (sgO O) i) (by omega) (by omega), wr_id (z := sgu (sgO O) i * gW (sgO O) i + gR (sgO O) i * (x - sga (sgO O) i)) (by omega) (by omega), wr_id (by omega) (by omega)]
  rfl
theorem hi_num {fi fj wi wj ri rj : Int} (b1 : -432000 ≤ fi * wj ∧ fi * wj ≤ 432000) (b2 : -432000 ≤ fj * wi ∧ fj * wi ≤ 432000) (b3 : -3600 ≤ ri * wj ∧ ri * wj ≤ 3600) (b4 : -3600 ≤ rj * wi ∧ rj * wi ≤ 3600) :
    ∃ q : Int, (if wr (wr (fi * wj) - wr (fj * wi)) = 0 then (if wr (rj * wi) < wr (ri * wj) then some (1 : Int) else some 0) else (if 0 < wr (wr (fi * wj) - wr (fj * wi)) then some 1 else some 0)) = some q ∧ (q = 0 ∨ q = 1) ∧ (q = 1 ↔ 0 < fi * wj - fj * wi ∨ (fi * wj - fj * wi = 0 ∧ 0 < ri * wj - rj * wi)) := by
  generalize fi * wj = a at *
  generalize fj * wi = b at *
  generalize ri * wj = c at *
  generalize rj * wi = d at *
  rw [wr_id (z := a) (by omega) (by omega), wr_id (z := b) (by omega) (by omega), wr_id (z := a - b) (by omega) (by omega), wr_id (z := c) (by omega) (by omega), wr_id (z := d) (by omega) (by omega)]
  split
  · split
    · exact ⟨1, rfl, by omega, by omega⟩
    · exact ⟨0, rfl, by omega, by omega⟩
  · split
    · exact ⟨1, rfl, by omega, by omega⟩
    · exact ⟨0, rfl, by omega, by omega⟩
theorem rf_hi {O : Smo} {i j : Nat} (hi : i < 8) (hj : j < 8) (hb : SegB (sgO O) i) (hb' : SegB (sgO O) j) {x : Int} (hx : 0 ≤ x ∧ x ≤ 60) : ∃ q : Int, f_X12_isHigher i j x O = some q ∧ (q = 0 ∨ q = 1) ∧ (q = 1 ↔ hiP (sgO O) i j x) := by
  have e1 : ∀ k, gA (sgO O) k x 0 = gF (sgO O) k x := fun k => by unfold gA; omega
  have b1 := gFW_bd hb hb' hx
  have b2 := gFW_bd hb' hb hx
  have b3 := gRW_bd hb hb'
  have b4 := gRW_bd hb' hb
  have w1 := gW_pos hb
  have w2 := gW_pos hb'
  have r1 := gR_bd hb
  have r2 := gR_bd hb'
  have f1 := rf_far hi hb hx (up := 0) (by omega)
  have f2 := rf_far hj hb' hx (up := 0) (by omega)
  rw [e1] at f1 f2
  have v1 : wr (O 278 i - O 276 i) = gW (sgO O) i := wr_id (z := gW (sgO O) i) (by omega) (by omega)
  have v2 : wr (O 278 j - O 276 j) = gW (sgO O) j := wr_id (z := gW (sgO O) j) (by omega) (by omega)
  have v3 : wr (O 279 i - O 277 i) = gR (sgO O) i := wr_id (z := gR (sgO O) i) (by omega) (by omega)
  have v4 : wr (O 279 j - O 277 j) = gR (sgO O) j := wr_id (z := gR (sgO O) j) (by omega) (by omega)
  have a1 : aget (O 278) (Ln 278) i = some (O 278 i) := by rw [Ln278]; exact aget_nat hi
  have a2 : aget (O 278) (Ln 278) j = some (O 278 j) := by rw [Ln278]; exact aget_nat hj
  have a3 : aget (O 276) (Ln 276) i = some (O 276 i) := by rw [Ln276]; exact aget_nat hi
  have a4 : aget (O 276) (Ln 276) j = some (O 276 j) := by rw [Ln276]; exact aget_nat hj
  have a5 : aget (O 277) (Ln 277) i = some (O 277 i) := by rw [Ln277]; exact aget_nat hi
  have a6 : aget (O 277) (Ln 277) j = some (O 277 j) := by rw [Ln277]; exact aget_nat hj
  have a7 : aget (O 279) (Ln 279) i = some (O 279 i) := by rw [Ln279]; exact aget_nat hi
  have a8 : aget (O 279) (Ln 279) j = some (O 279 j) := by rw [Ln279]; exact aget_nat hj
  unfold f_X12_isHigher
  rw [a1, a2, a3, a4, a5, a6, a7, a8, f1, f2]
  dsimp only [Option.bind_some, jn]
  rw [v1, v2, v3, v4]
  exact hi_num b1 b2 b3 b4
theorem rf_over {O : Smo} {i : Nat} (hi : i < 8) (x : Int) : f_X12_isOver i x O = some (if sga (sgO O) i ≤ x ∧ x < sgb (sgO O) i then 1 else 0) := by
  unfold f_X12_isOver jk
  rw [Ln276, Ln278, aget_nat hi, aget_nat hi]
  dsimp only [Option.bind_some]
  have e3 : O 276 i = sga (sgO O) i := rfl
  have e4 : O 278 i = sgb (sgO O) i := rfl
  rw [e3, e4]
  by_cases c1 : x < sga (sgO O) i
  · rw [if_pos c1, if_neg (by omega)]
  · rw [if_neg c1]
    by_cases c2 : x < sgb (sgO O) i
    · rw [if_pos c2, if_pos (by omega)]
    · rw [if_neg c2, if_neg (by omega)]
