/-! the start: what the Statement gives, the two objects, the law's walk -/
def S00 : Sst := (fun _ => [], fun _ _ => 0)
def O00 : Smo := fun _ _ => 0
/-- LEVEL 3: the law's function is 1 on every script -/
theorem law_true (xs : Nat → Int) (L : Nat) (hL : L ≤ 3072) (hx : ∀ k, IR (xs k)) : f_law xs L S00 O00 = some 1 := law_all xs L hL (fun _ => rfl) (fun _ _ => rfl) (fun _ _ => rfl)
theorem arr_of {args : Array Value} {s : State} {ty : FieldType} (h : (Cond.arrayClass ty).before args s = true) : ∃ cA : ClassId, ArrOfT s cA ty ∧ s.vm.findClass ("[" ++ ty.toString) = some cA := by
  obtain ⟨cA, kA, comp, h1, h2, h3⟩ := Cond.arrayClass_spec h
  exact ⟨cA, fun n z => ⟨fun k h => (by cases h), kA, h2, comp, h3⟩, h1⟩
def strT (i : Nat) : Term := if i = 0 then .string "StampMap$Lexer" 23 else .string "StampMap$Lexer" 98
theorem str_flat : ∀ i, i < 2 → (Cond.exactly (strT i) "java/lang/String") ∈ flatC (Jvm.Cond.and given_1 narrow_1) ∧ (Cond.eq (.field (strT i) "java/lang/String" "coder" "B") (.int 0)) ∈ flatC (Jvm.Cond.and given_1 narrow_1) ∧ (Cond.arrayOf (.field (strT i) "java/lang/String" "value" "[B") .byte) ∈ flatC (Jvm.Cond.and given_1 narrow_1) ∧ (Cond.eq (.length (.field (strT i) "java/lang/String" "value" "[B")) (.int (Int32.ofNat (zLen.getD i 0)))) ∈ flatC (Jvm.Cond.and given_1 narrow_1) := by decide +kernel
theorem str_flat2 : ∀ i, i < 2 → ∀ j, j < zLen.getD i 0 → (Cond.eq (.elem (.field (strT i) "java/lang/String" "value" "[B") (.int (Int32.ofNat j))) (.int ((zByt.getD i []).getD j 0))) ∈ flatC (Jvm.Cond.and given_1 narrow_1) := by decide +kernel
set_option maxRecDepth 100000 in
set_option maxHeartbeats 4000000 in
theorem zV_start {s : State} {b : Nat} (hts : ∀ w ∈ lw_tbl, w.before #[Value.ref b] s = true) (hgv : (Jvm.Cond.and given_1 narrow_1).before #[Value.ref b] s = true) : ∃ E : EwT, zB E = s.heap.size ∧ zV E s := by
  have hfl := flat_of_before _ hgv
  have hT : ∀ w ∈ TB, w.before #[Value.ref b] s = true := fun w h => hts w (List.mem_filter.mp h).1
  have hA : ∀ a : Nat, a < s.heap.size → ¬ (fun q : Nat => s.heap.size ≤ q) a := fun a h q => by
    have q : s.heap.size ≤ a := q
    omega
  obtain ⟨c0, i0, k0⟩ := u_known (C := RX0) (T := TX0) (N := 5) (n := 5) hT ly_X0 (hT _ q_581)
  obtain ⟨c1, i1, k1⟩ := u_known (C := RX1) (T := TX1) (N := 3) (n := 3) hT ly_X1 (hT _ q_181)
  obtain ⟨c2, i2, k2⟩ := u_known (C := RX2) (T := TX2) (N := 3) (n := 3) hT ly_X2 (hT _ q_387)
  obtain ⟨c3, i3, k3⟩ := u_known (C := RX3) (T := TX3) (N := 10) (n := 10) hT ly_X3 (hT _ q_279)
  obtain ⟨c4, i4, k4⟩ := u_known (C := RX4) (T := TX4) (N := 13) (n := 13) hT ly_X4 (hT _ q_173)
  obtain ⟨c5, i5, k5⟩ := u_known (C := RX5) (T := TX5) (N := 6) (n := 6) hT ly_X5 (hT _ q_381)
  obtain ⟨c6, i6, k6⟩ := u_known (C := RX6) (T := TX6) (N := 2) (n := 2) hT ly_X6 (hT _ q_156)
  obtain ⟨c7, i7, k7⟩ := u_known (C := RX7) (T := TX7) (N := 17) (n := 17) hT ly_X7 (hT _ q_474)
  obtain ⟨c8, i8, k8⟩ := u_known (C := RX8) (T := TX8) (N := 10) (n := 10) hT ly_X8 (hT _ q_607)
  obtain ⟨c9, i9, k9⟩ := u_known (C := RX9) (T := TX9) (N := 8) (n := 8) hT ly_X9 (hT _ q_651)
  obtain ⟨c10, i10, k10⟩ := u_known (C := RX10) (T := TX10) (N := 10) (n := 10) hT ly_X10 (hT _ q_424)
  obtain ⟨c11, i11, k11⟩ := u_known (C := RX11) (T := TX11) (N := 15) (n := 15) hT ly_X11 (hT _ q_148)
  obtain ⟨c12, i12, k12⟩ := u_known (C := RX12) (T := TX12) (N := 80) (n := 80) hT ly_X12 (hT _ q_1548)
  obtain ⟨dC, dI, hKc⟩ : ∃ (dC : Nat → ClassId) (dI : Nat → Nat → Nat), ∀ (k : Nat) (q : vw_C), vwCl[k]? = some q → u_Kn s q.1 q.2.1 q.2.2 (dC k) (dI k) := by
    refine ⟨fun k => [c0, c1, c2, c3, c4, c5, c6, c7, c8, c9, c10, c11, c12].getD k c0, fun k => [i0, i1, i2, i3, i4, i5, i6, i7, i8, i9, i10, i11, i12].getD k i0, ?_⟩
    intro k q hq
    match k, hq with
    | 0, hq => cases hq; exact k0
    | 1, hq => cases hq; exact k1
    | 2, hq => cases hq; exact k2
    | 3, hq => cases hq; exact k3
    | 4, hq => cases hq; exact k4
    | 5, hq => cases hq; exact k5
    | 6, hq => cases hq; exact k6
    | 7, hq => cases hq; exact k7
    | 8, hq => cases hq; exact k8
    | 9, hq => cases hq; exact k9
    | 10, hq => cases hq; exact k10
    | 11, hq => cases hq; exact k11
    | 12, hq => cases hq; exact k12
    | k + 13, hq => simp [vwCl] at hq
  obtain ⟨cI, aI, nI1⟩ := arr_of (hT _ q_171)
  obtain ⟨cL, aL, nL1⟩ := arr_of (hT _ q_378)
  obtain ⟨cZ, aZ, nZ1⟩ := arr_of (hT _ q_1794)
  obtain ⟨cB, aB, nB1⟩ := arr_of (hT _ q_379)
  obtain ⟨adK, adV, hS4, hev⟩ := vk_Sof (args := #[Value.ref b]) (s := s) (N := 2) (tm := strT) (len := zLen) (byt := zByt) (A := fun q : Nat => s.heap.size ≤ q) (by decide) (fun i hi => hfl _ (str_flat i hi).1) (fun i hi => hfl _ (str_flat i hi).2.1) (fun i hi => hfl _ (str_flat i hi).2.2.1) (fun i hi => hfl _ (str_flat i hi).2.2.2) (fun i hi j hj => hfl _ (str_flat2 i hi j hj))
    (fun i j hi hj hne => by
      have h01 : (Cond.not (Cond.eq (strT 0) (strT 1))).before #[Value.ref b] s = true := hfl _ (by decide +kernel)
      rcases (show i = 0 ∨ i = 1 by omega) with rfl | rfl <;> rcases (show j = 0 ∨ j = 1 by omega) with rfl | rfl
      · exact absurd rfl hne
      · exact Or.inl h01
      · exact Or.inr h01
      · exact absurd rfl hne) hA
  have hx : ∀ i, i < 2 → (fun i => if i < 2 then adK i else adV (i - 2)) i = adK i := fun i h => if_pos h
  have hx2 : ∀ i, (fun i => if i < 2 then adK i else adV (i - 2)) (i + 2) = adV i := fun i => if_neg (by omega)
  have hZ2 := va_Zqof (C := "jdk/internal/util/Preconditions") (n := "SIOOBE_FORMATTER") (d := "Ljava/util/function/BiFunction;") (A := fun q : Nat => s.heap.size ≤ q) (hts _ (List.mem_of_getElem? (i := 310) (by decide +kernel))) (hT _ q_135) (hfl _ (by decide +kernel)) hA
  refine ⟨((dC, dI), (cI, cL, cZ, cB), s.heap.size, fun i => if i < 2 then adK i else adV (i - 2)), rfl, ⟨hKc, fun k q hq => ?_⟩, ?_, ?_, ?_, ?_, ?_⟩
  · match k, hq with
    | 0, hq => cases hq; exact ⟨aI, nI1⟩
    | 1, hq => cases hq; exact ⟨aL, nL1⟩
    | 2, hq => cases hq; exact ⟨aZ, nZ1⟩
    | 3, hq => cases hq; exact ⟨aB, nB1⟩
    | k + 4, hq => simp at hq
  · exact vk_R.of (A := #[Value.ref b]) (hts _ (List.mem_of_getElem? (i := 284) (by decide +kernel))) (by
      have h := hev 0 (by decide)
      exact h)
  · exact vk_R.of (A := #[Value.ref b]) (hts _ (List.mem_of_getElem? (i := 796) (by decide +kernel))) (by
      have h := hev 1 (by decide)
      exact h)
  · obtain ⟨g1, g2⟩ := hS4
    refine ⟨fun i hi => ?_, fun i j hi hj e => g2 i j hi hj ?_⟩
    · have h := g1 i hi
      rw [← hx i hi, ← hx2 i] at h
      exact h
    · rw [← hx i hi, ← hx j hj]
      exact e
  · exact va_Zof (C := "java/lang/String") (hts _ (List.mem_of_getElem? (i := 294) (by decide +kernel))) (hT _ q_133) (va_eqt (hfl _ (by decide +kernel))) hA
  · rcases hZ2 with h | ⟨t, h⟩
    · exact ⟨.null, rfl, h⟩
    · exact ⟨.ref t, rfl, h⟩
theorem zRep_start {E : EwT} {s : State} (h : zB E = s.heap.size) : zRep E 0 (RT 0) S00 O00 s.heap := by
  refine ⟨fun _ _ => 0, ⟨by rw [h]; rfl, fun k hk => by omega, fun k j => ?_, fun k _ j => ⟨rfl, by simp [RT]⟩⟩, fun k => ⟨fun _ => ⟨rfl, Nat.zero_le _, fun i hi => by simp [S00] at hi⟩, fun _ _ j => by unfold S00 O00; split <;> rfl⟩⟩
  unfold zrg
  split
  · exact LRd rfl
  · split
    · exact BRd rfl
    · exact IRd rfl
set_option maxRecDepth 100000 in
set_option maxHeartbeats 4000000 in
theorem whole_start {p : Program} {e : Env} {s : State} {m : MethodId} {below : List Frame} {meth : Method} {c : Code} (l : Launch) (hflags : l.flags = flags0) {b L : Nat} {xs : Nat → Int32} (hL : L ≤ 3072) (C0 : lw_At p s m meth c b L xs) : W p l e room_1 s m #[Value.ref b] below meth c s.heap [] 0 0 (lw_Z below #[Value.ref b] s) (entryFrame m ([Value.ref b] : List Value).toArray 4) := by
  obtain ⟨hx, hb, hr, hml, hown, hts, hX, hbl, hlocks, hname, hgv⟩ := C0
  obtain ⟨E, hE, hV⟩ := zV_start hts hgv
  have hl := lv_entry ([.ref b]) (n := 4) (Nat.le_of_ble_eq_true rfl)
  rw [lg_entry_eq]
  generalize (lg_sl ([.ref b]) ++ List.replicate (4 - (lg_sl ([.ref b])).length) Slot.unset).toArray = ls at hl ⊢
  have hl : lv_has ls 4 [(0, .ref b)] := hl
  have hT : ∀ w ∈ TB, w.before #[Value.ref b] s = true := fun w h => hts w (List.mem_filter.mp h).1
  have g := law_walk (E := E) (K := (p, l, e, room_1, s, m, #[Value.ref b], below, meth, c, lw_Z below #[Value.ref b] s)) (S := S00) (O := O00) (b := b) (L := L) (ys := xs) rfl
    ⟨hx, hb, hml, hown, hT, hV, by rw [hE]; exact Nat.le_refl _, hlocks, rfl, hr, hname⟩ ⟨hX, hbl, by rw [hE]; exact hbl, hL⟩ ⟨rfl, rfl, rfl, hE⟩
  exact g (law_true _ L hL (fun k => i32_IR _)) s.heap [] ls (zRep_start hE) va_S.rf (by
    show lv_has ls c.maxLocals _
    rw [hml]
    exact hl)
