/-! THE CLAIM OUT OF ONE WALK OF THE LAW'S BODY. Your part is whole_start (and what it stands on); all else here is the same for every law, but numbers. -/
def R_law : String := "StampMapLaw"
def lw_P (b : Addr) (xs : List Int32) (args : Array Value) (s : State) : Prop := args = #[.ref b] ∧ s.IntsAt b xs ∧ xs.length ≤ 3072 ∧ (Jvm.Cond.and given_1 narrow_1).before args s = true
def lw_Q (_ : Array Value) (s : State) (o : Outcome) (t : State) : Prop := o = .returned (some (.int 1)) ∧ Framed s o t [] 600000 7302250
def lw_Z (below : List Frame) (a : Array Value) (s : State) : State → Prop := fun t => ∃ o, t.status = .running ∧ Ended t below o ∧ lw_Q a s o t
/-- the law's own end, with 1 on the stack, nothing written that was there before, its room as the claim has it -/
theorem lw_ret {p : Program} {l : Launch} {e : Env} {s : State} {m : MethodId} {below : List Frame} {meth : Method} {c : Code} {b : Nat} (hx : p.tables.exec = Jvm.exec) (hb : c.code = code) (hr : meth.sig.returnType = ret) (hlocks : meth.locks = false) {pc : Nat} {H : Heap} {ls : Array Slot} (hdg : decode code pc = .ok (.ireturn, 1)) : W p l e room_1 s m #[Value.ref b] below meth c H [] 600000 7302250 (lw_Z below #[Value.ref b] s) (F0 m pc ls [.int 1]) := by
  intro T hT X
  obtain ⟨fs, hret, hrun, hended, hW, hframe⟩ := X.leave (v := some (.int 1)) (hlocks := hlocks) (fun h => by rw [hr] at h; cases h)
  have hmeth' : T.vm.method? m = some meth := X.method'
  refine ⟨T.setFrames fs, ?_, .returned (some (.int 1)), hrun, hended, rfl, ⟨_, rfl⟩, hW, hframe⟩
  jvm_step X.here [X.here.top, hx, hb, hdg, hmeth', hr, ret, narrow_b1]
  (try refine ⟨rfl, ?_⟩); (try refine ⟨rfl, ?_⟩)
  first | (intro acts; rw [hret _ acts rfl rfl rfl]) | rw [hret _ _ rfl rfl rfl]
  exact Steps.refl _
/-- what holds at the law's entry: the machine, the code, the tables' words (any of lw_tbl by 'hts w (by decide +kernel)'), the script of L ints xs at the cell b, what the Statement gives of the start (any of its parts by flat_of_before) -/
def lw_At (p : Program) (s : State) (m : MethodId) (meth : Method) (c : Code) (b L : Nat) (xs : Nat → Int32) : Prop :=
  p.tables.exec = Jvm.exec ∧ c.code = code ∧ meth.sig.returnType = ret ∧ c.maxLocals = 4 ∧ s.vm.findClass R_law = some m.cls ∧ (∀ w ∈ lw_tbl, w.before #[Value.ref b] s = true) ∧ va_X b L xs s s.heap ∧ b < s.heap.size ∧ meth.locks = false ∧ meth.name = "law" ∧ (Jvm.Cond.and given_1 narrow_1).before #[Value.ref b] s = true
/-! the law: its rows of its own, its function, its walk -/
section LAWROWS
variable {γ : Type} {E : EwT} {K : KxT} {bf : γ} {n : Nat} {R : Srf} {S : Sst} {O : Smo} {cs sl : Nat} {pc : Nat} {st : List Value} {t : γ} {LL : List (Nat × Value)}
variable {y : MethodName} {cc : ByteArray} {nL : Nat} {rm : Room} {ret' : Option FieldType} {b L : Nat} {xs : Nat → Int32}
/-- the script lies below the two objects -/
def Scr (E : EwT) (K : KxT) (b L : Nat) (xs : Nat → Int32) : Prop := va_X b L xs K.s K.s.heap ∧ b < K.s.heap.size ∧ b < zB E ∧ L ≤ 3072
theorem r_slen (C : Cx E K y cc nL rm ret') (X : Scr E K b L xs) (d : decode cc pc = .ok (.arraylength, 1)) (g : GG E K bf n R S O cs sl LL (pc + 1) (.int (zi (L : Int)) :: st) t) : GG E K bf n R S O cs sl LL pc (.ref b :: st) t := fun e H locs ls hR hS hl => by
  have h := g e H locs ls hR hS hl
  rw [show zi (L : Int) = Int32.ofNat L from Int32.ofInt_eq_ofNat] at h
  exact va_slen C.1 C.2.1 X.1 X.2.1 (by show ¬ zB E ≤ b; have := X.2.2.1; omega) hS d h
theorem r_sld {z : Int} {F : Int → Option γ} (C : Cx E K y cc nL rm ret') (X : Scr E K b L xs) (hz : IR z) (d : decode cc pc = .ok (.iaload, 1)) (g : ∀ v, IR v → GG E K (some bf) n R S O cs sl LL (pc + 1) (.int (zi v) :: st) (F v)) : GG E K (some bf) n R S O cs sl LL pc (.int (zi z) :: .ref b :: st) (Option.bind (aget (fun k => (xs k).toInt) L z) F) := fun e H locs ls hR hS hl => by
  unfold aget at e
  by_cases h : 0 ≤ z ∧ z < L
  · rw [if_pos h] at e
    refine va_sld C.1 C.2.1 X.1 X.2.1 (by show ¬ zB E ≤ b; have := X.2.2.1; omega) hS (zi_in hz h.1 h.2) d ?_
    rw [zi_cl hz, ← zi_of (xs z.toNat)]
    exact g _ (i32_IR _) e H locs ls hR hS hl
  · rw [if_neg h] at e
    cases e
def LawK (E : EwT) (K : KxT) (b : Nat) : Prop := K.Q = lw_Z K.below #[Value.ref b] K.s ∧ K.args = #[Value.ref b] ∧ K.room = room_1 ∧ zB E = K.s.heap.size
theorem r_lawret {z : Int} (C : Cx E K y code nL rm ret) (hW : LawK E K b ∧ cs ≤ 600000 ∧ sl ≤ 7302250) (d : decode code pc = .ok (.ireturn, 1)) : GG E K (some (1 : Int)) n R S O cs sl LL pc [.int (zi z)] (some z) := fun e H locs ls hR hS hl => by
  cases e
  obtain ⟨⟨h1, h2, h3, h4⟩, h5, h6⟩ := hW
  obtain ⟨x1, x2, x3, x4, x5, x6, x7, x8, x9, x10, x11⟩ := C
  obtain ⟨p, l, e, Rm, s, m, args, below, meth, c, Q⟩ := K
  dsimp only [KxT.Q, KxT.args, KxT.room, KxT.s, KxT.below, KxT.l, KxT.m, KxT.meth, KxT.c] at *
  subst h1 h2 h3
  refine va_forget (fun q hq => by have := hS.2.2 q hq; have h7 : zB E ≤ q.base := this; omega) ?_
  refine W.widen (k := 600000) (n := 7302250) h5 h6 ?_
  exact lw_ret x1 x2 x10 x8 d
theorem r_whole (g : GG E K bf n0 R0 S O cs sl LL pc st t) : GG E K bf 307 (RT 317) S O cs sl LL pc st t := by
  have hl : SQ.length = 317 := by decide +kernel
  have h : RT 317 = R0 := hl ▸ RT_all
  rw [h]
  exact g
theorem r_loopL {σ ρ : Type} {step : σ → Option (σ ⊕ (ρ ⊕ Unit))} {F : ρ → Option Int} {s0 : σ} (I : σ → Prop) (Sq : σ → Sst) (Oq : σ → Smo) (Lq : σ → List (Nat × Value)) (sq : List Value)
    (Px : ρ → Prop) (Sx : ρ → Sst) (Ox : ρ → Smo) (Lx : ρ → List (Nat × Value)) (px : Nat) (hX : ∀ r, Px r → GG E K (some (1 : Int)) n R (Sx r) (Ox r) cs sl (Lx r) px sq (F r))
    (hb : ∀ (k : σ → Option Int) (F' : ρ → Option Int), (∀ s, I s → GG E K (some (1 : Int)) n R (Sq s) (Oq s) cs sl (Lq s) pc sq (k s)) → (∀ r, Px r → GG E K (some (1 : Int)) n R (Sx r) (Ox r) cs sl (Lx r) px sq (F' r)) →
      ∀ s, I s → GG E K (some (1 : Int)) n R (Sq s) (Oq s) cs sl (Lq s) pc sq (Option.bind (step s) (fun q => Sum.elim k (fun q => Sum.elim F' (fun _ => some (0 : Int)) q) q)))
    (h0 : I s0) : GG E K (some (1 : Int)) n R (Sq s0) (Oq s0) cs sl (Lq s0) pc sq (Option.bind (lp step FU s0) (fun q => Sum.elim F (fun _ => some (0 : Int)) q)) :=
  r_loop I Sq Oq Lq (fun _ => sq) (fun k hk => hb k F hk hX) h0
end LAWROWS
def f_law (xs : Nat → Int) (L : Nat) (S : Sst) (O : Smo) : Option Int :=
  Option.bind (f_X11_init_0 S) fun (q11909 : Sst) =>
  jn (f_X12_init_262 O) fun (q11911 : Smo) =>
  Option.bind (lp (fun (s11913 : Int × Sst × Smo) =>
    if wr ((L : Int) - 6) < s11913.1 then
      (some (Sum.inr (Sum.inl (s11913.2.1, s11913.2.2))))
    else
      (Option.bind (aget xs L s11913.1) fun (v11920 : Int) =>
      if zand v11920 63 = 0 then
        (Option.bind (aget xs L (wr (s11913.1 + 1))) fun (v11923 : Int) =>
        Option.bind (aget xs L (wr (s11913.1 + 2))) fun (v11925 : Int) =>
        Option.bind (aget xs L (wr (s11913.1 + 3))) fun (v11927 : Int) =>
        Option.bind (aget xs L (wr (s11913.1 + 4))) fun (v11929 : Int) =>
        Option.bind (aget xs L (wr (s11913.1 + 5))) fun (v11931 : Int) =>
        Option.bind (f_X11_feed v11923 v11925 v11927 v11929 v11931 s11913.2.1) fun (q11934 : Int × Sst) =>
        Option.bind (aget xs L (wr (s11913.1 + 1))) fun (v11936 : Int) =>
        Option.bind (aget xs L (wr (s11913.1 + 2))) fun (v11938 : Int) =>
        Option.bind (aget xs L (wr (s11913.1 + 3))) fun (v11940 : Int) =>
        Option.bind (aget xs L (wr (s11913.1 + 4))) fun (v11942 : Int) =>
        Option.bind (aget xs L (wr (s11913.1 + 5))) fun (v11944 : Int) =>
        Option.bind (f_X12_feed v11936 v11938 v11940 v11942 v11944 s11913.2.2) fun (q11947 : Int × Smo) =>
        if q11934.1 = q11947.1 then
          (some (Sum.inl (wr (s11913.1 + 6), q11934.2, q11947.2)))
        else
          (some (Sum.inr (Sum.inr ()))))
      else
        (if zand v11920 63 = 1 then
          (Option.bind (aget xs L (wr (s11913.1 + 1))) fun (v11951 : Int) =>
          jn (f_X11_end v11951 s11913.2.1) fun (q11954 : Int × Sst) =>
          Option.bind (aget xs L (wr (s11913.1 + 1))) fun (v11956 : Int) =>
          jn (f_X12_end v11956 s11913.2.2) fun (q11959 : Int × Smo) =>
          if q11954.1 = q11959.1 then
            (some (Sum.inl (wr (s11913.1 + 6), q11954.2, q11959.2)))
          else
            (some (Sum.inr (Sum.inr ()))))
        else
          (if zand v11920 63 = 2 then
            (Option.bind (f_X11_map s11913.2.1) fun (q11964 : Int × Sst) =>
            Option.bind (f_X12_map s11913.2.2) fun (q11967 : Int × Smo) =>
            if q11964.1 = q11967.1 then
              (some (Sum.inl (wr (s11913.1 + 6), q11964.2, q11967.2)))
            else
              (some (Sum.inr (Sum.inr ()))))
          else
            (if zand v11920 63 = 3 then
              (Option.bind (aget xs L (wr (s11913.1 + 1))) fun (v11971 : Int) =>
              Option.bind (aget xs L (wr (s11913.1 + 1))) fun (v11974 : Int) =>
              if f_X11_fault v11971 s11913.2.1 = f_X12_fault v11974 s11913.2.2 then
                (some (Sum.inl (wr (s11913.1 + 6), s11913.2.1, s11913.2.2)))
              else
                (some (Sum.inr (Sum.inr ()))))
            else
              (if zand v11920 63 = 4 then
                (Option.bind (aget xs L (wr (s11913.1 + 1))) fun (v11979 : Int) =>
                Option.bind (aget xs L (wr (s11913.1 + 2))) fun (v11981 : Int) =>
                Option.bind (aget xs L (wr (s11913.1 + 1))) fun (v11984 : Int) =>
                Option.bind (aget xs L (wr (s11913.1 + 2))) fun (v11986 : Int) =>
                Option.bind (f_X12_segment v11984 v11986 s11913.2.2) fun (q11989 : Int) =>
                if f_X11_segment v11979 v11981 s11913.2.1 = q11989 then
                  (some (Sum.inl (wr (s11913.1 + 6), s11913.2.1, s11913.2.2)))
                else
                  (some (Sum.inr (Sum.inr ()))))
              else
                (if zand v11920 63 = 5 then
                  (Option.bind (aget xs L (wr (s11913.1 + 1))) fun (v11993 : Int) =>
                  Option.bind (aget xs L (wr (s11913.1 + 1))) fun (v11996 : Int) =>
                  Option.bind (f_X12_weight v11996 s11913.2.2) fun (q11999 : Int) =>
                  if f_X11_weight v11993 s11913.2.1 = q11999 then
                    (some (Sum.inl (wr (s11913.1 + 6), s11913.2.1, s11913.2.2)))
                  else
                    (some (Sum.inr (Sum.inr ()))))
                else
                  (if zand v11920 63 = 6 then
                    (Option.bind (aget xs L (wr (s11913.1 + 1))) fun (v12003 : Int) =>
                    Option.bind (aget xs L (wr (s11913.1 + 2))) fun (v12005 : Int) =>
                    Option.bind (aget xs L (wr (s11913.1 + 3))) fun (v12007 : Int) =>
                    Option.bind (aget xs L (wr (s11913.1 + 1))) fun (v12010 : Int) =>
                    Option.bind (aget xs L (wr (s11913.1 + 2))) fun (v12012 : Int) =>
                    Option.bind (aget xs L (wr (s11913.1 + 3))) fun (v12014 : Int) =>
                    Option.bind (f_X12_higher v12010 v12012 v12014 s11913.2.2) fun (q12017 : Int) =>
                    if f_X11_higher v12003 v12005 v12007 s11913.2.1 = q12017 then
                      (some (Sum.inl (wr (s11913.1 + 6), s11913.2.1, s11913.2.2)))
                    else
                      (some (Sum.inr (Sum.inr ()))))
                  else
                    (if zand v11920 63 = 7 then
                      (Option.bind (f_X11_sweep s11913.2.1) fun (q12022 : Int × Sst) =>
                      Option.bind (f_X12_sweep s11913.2.2) fun (q12025 : Int × Smo) =>
                      if q12022.1 = q12025.1 then
                        (some (Sum.inl (wr (s11913.1 + 6), q12022.2, q12025.2)))
                      else
                        (some (Sum.inr (Sum.inr ()))))
                    else
                      (if zand v11920 63 = 8 then
                        (Option.bind (aget xs L (wr (s11913.1 + 1))) fun (v12029 : Int) =>
                        Option.bind (f_X11_cut v12029 s11913.2.1) fun (q12032 : Int × Sst) =>
                        Option.bind (aget xs L (wr (s11913.1 + 1))) fun (v12034 : Int) =>
                        Option.bind (f_X12_cut v12034 s11913.2.2) fun (q12037 : Int × Smo) =>
                        if q12032.1 = q12037.1 then
                          (some (Sum.inl (wr (s11913.1 + 6), q12032.2, q12037.2)))
                        else
                          (some (Sum.inr (Sum.inr ()))))
                      else
                        (if zand v11920 63 = 9 then
                          (Option.bind (aget xs L (wr (s11913.1 + 1))) fun (v12041 : Int) =>
                          Option.bind (f_X11_raise v12041 s11913.2.1) fun (q12044 : Int × Sst) =>
                          Option.bind (aget xs L (wr (s11913.1 + 1))) fun (v12046 : Int) =>
                          Option.bind (f_X12_raise v12046 s11913.2.2) fun (q12049 : Int × Smo) =>
                          if q12044.1 = q12049.1 then
                            (some (Sum.inl (wr (s11913.1 + 6), q12044.2, q12049.2)))
                          else
                            (some (Sum.inr (Sum.inr ()))))
                        else
                          (if zand v11920 63 = 10 then
                            (Option.bind (f_X11_undo s11913.2.1) fun (q12054 : Int × Sst) =>
                            jn (f_X12_undo s11913.2.2) fun (q12057 : Int × Smo) =>
                            if q12054.1 = q12057.1 then
                              (some (Sum.inl (wr (s11913.1 + 6), q12054.2, q12057.2)))
                            else
                              (some (Sum.inr (Sum.inr ()))))
                          else
                            (if zand v11920 63 = 11 then
                              (Option.bind (f_X11_redo s11913.2.1) fun (q12062 : Int × Sst) =>
                              jn (f_X12_redo s11913.2.2) fun (q12065 : Int × Smo) =>
                              if q12062.1 = q12065.1 then
                                (some (Sum.inl (wr (s11913.1 + 6), q12062.2, q12065.2)))
                              else
                                (some (Sum.inr (Sum.inr ()))))
                            else
                              (if zand v11920 63 = 12 then
                                (Option.bind (aget xs L (wr (s11913.1 + 1))) fun (v12069 : Int) =>
                                Option.bind (aget xs L (wr (s11913.1 + 2))) fun (v12071 : Int) =>
                                Option.bind (f_X11_version v12069 v12071 s11913.2.1) fun (q12074 : Int × Sst) =>
                                Option.bind (aget xs L (wr (s11913.1 + 1))) fun (v12076 : Int) =>
                                Option.bind (aget xs L (wr (s11913.1 + 2))) fun (v12078 : Int) =>
                                Option.bind (f_X12_version v12076 v12078 s11913.2.2) fun (q12081 : Int × Smo) =>
                                if q12074.1 = q12081.1 then
                                  (some (Sum.inl (wr (s11913.1 + 6), q12074.2, q12081.2)))
                                else
                                  (some (Sum.inr (Sum.inr ()))))
                              else
                                (if zand v11920 63 = 13 then
                                  (Option.bind (aget xs L (wr (s11913.1 + 1))) fun (v12085 : Int) =>
                                  Option.bind (aget xs L (wr (s11913.1 + 2))) fun (v12087 : Int) =>
                                  Option.bind (f_X11_node v12085 v12087 s11913.2.1) fun (q12090 : Int) =>
                                  Option.bind (aget xs L (wr (s11913.1 + 1))) fun (v12092 : Int) =>
                                  Option.bind (aget xs L (wr (s11913.1 + 2))) fun (v12094 : Int) =>
                                  Option.bind (f_X12_node v12092 v12094 s11913.2.2) fun (q12097 : Int × Smo) =>
                                  if q12090 = q12097.1 then
                                    (some (Sum.inl (wr (s11913.1 + 6), s11913.2.1, q12097.2)))
                                  else
                                    (some (Sum.inr (Sum.inr ()))))
                                else
                                  (if zand v11920 63 = 14 then
                                    (Option.bind (aget xs L (wr (s11913.1 + 1))) fun (v12101 : Int) =>
                                    Option.bind (aget xs L (wr (s11913.1 + 2))) fun (v12103 : Int) =>
                                    Option.bind (aget xs L (wr (s11913.1 + 3))) fun (v12105 : Int) =>
                                    Option.bind (aget xs L (wr (s11913.1 + 1))) fun (v12108 : Int) =>
                                    Option.bind (aget xs L (wr (s11913.1 + 2))) fun (v12110 : Int) =>
                                    Option.bind (aget xs L (wr (s11913.1 + 3))) fun (v12112 : Int) =>
                                    Option.bind (f_X12_change v12108 v12110 v12112 s11913.2.2) fun (q12115 : Int) =>
                                    if f_X11_change v12101 v12103 v12105 s11913.2.1 = q12115 then
                                      (some (Sum.inl (wr (s11913.1 + 6), s11913.2.1, s11913.2.2)))
                                    else
                                      (some (Sum.inr (Sum.inr ()))))
                                  else
                                    (if zand v11920 63 = 15 then
                                      (Option.bind (aget xs L (wr (s11913.1 + 1))) fun (v12119 : Int) =>
                                      Option.bind (aget xs L (wr (s11913.1 + 2))) fun (v12121 : Int) =>
                                      Option.bind (aget xs L (wr (s11913.1 + 3))) fun (v12123 : Int) =>
                                      Option.bind (f_X11_read v12119 v12121 v12123 s11913.2.1) fun (q12126 : Int) =>
                                      Option.bind (aget xs L (wr (s11913.1 + 1))) fun (v12128 : Int) =>
                                      Option.bind (aget xs L (wr (s11913.1 + 2))) fun (v12130 : Int) =>
                                      Option.bind (aget xs L (wr (s11913.1 + 3))) fun (v12132 : Int) =>
                                      Option.bind (f_X12_read v12128 v12130 v12132 s11913.2.2) fun (q12135 : Int) =>
                                      if q12126 = q12135 then
                                        (some (Sum.inl (wr (s11913.1 + 6), s11913.2.1, s11913.2.2)))
                                      else
                                        (some (Sum.inr (Sum.inr ()))))
                                    else
                                      (if zand v11920 63 = 16 then
                                        (Option.bind (aget xs L (wr (s11913.1 + 1))) fun (v12139 : Int) =>
                                        Option.bind (f_X11_row v12139 s11913.2.1) fun (q12142 : Int × Sst) =>
                                        Option.bind (aget xs L (wr (s11913.1 + 1))) fun (v12144 : Int) =>
                                        Option.bind (f_X12_row v12144 s11913.2.2) fun (q12147 : Int × Smo) =>
                                        if q12142.1 = q12147.1 then
                                          (some (Sum.inl (wr (s11913.1 + 6), q12142.2, q12147.2)))
                                        else
                                          (some (Sum.inr (Sum.inr ()))))
                                      else
                                        (if zand v11920 63 = 17 then
                                          (Option.bind (aget xs L (wr (s11913.1 + 1))) fun (v12151 : Int) =>
                                          Option.bind (f_X11_shape v12151 s11913.2.1) fun (q12154 : Int × Sst) =>
                                          Option.bind (aget xs L (wr (s11913.1 + 1))) fun (v12156 : Int) =>
                                          Option.bind (f_X12_shape v12156 s11913.2.2) fun (q12159 : Int × Smo) =>
                                          if q12154.1 = q12159.1 then
                                            (some (Sum.inl (wr (s11913.1 + 6), q12154.2, q12159.2)))
                                          else
                                            (some (Sum.inr (Sum.inr ()))))
                                        else
                                          (if zand v11920 63 = 18 then
                                            (Option.bind (aget xs L (wr (s11913.1 + 1))) fun (v12163 : Int) =>
                                            Option.bind (aget xs L (wr (s11913.1 + 2))) fun (v12165 : Int) =>
                                            Option.bind (f_X11_below v12163 v12165 s11913.2.1) fun (q12168 : Int × Sst) =>
                                            Option.bind (aget xs L (wr (s11913.1 + 1))) fun (v12170 : Int) =>
                                            Option.bind (aget xs L (wr (s11913.1 + 2))) fun (v12172 : Int) =>
                                            Option.bind (f_X12_below v12170 v12172 s11913.2.2) fun (q12175 : Int) =>
                                            if q12168.1 = q12175 then
                                              (some (Sum.inl (wr (s11913.1 + 6), q12168.2, s11913.2.2)))
                                            else
                                              (some (Sum.inr (Sum.inr ()))))
                                          else
                                            (if zand v11920 63 = 19 then
                                              (Option.bind (aget xs L (wr (s11913.1 + 1))) fun (v12179 : Int) =>
                                              Option.bind (aget xs L (wr (s11913.1 + 2))) fun (v12181 : Int) =>
                                              Option.bind (f_X11_above v12179 v12181 s11913.2.1) fun (q12184 : Int × Sst) =>
                                              Option.bind (aget xs L (wr (s11913.1 + 1))) fun (v12186 : Int) =>
                                              Option.bind (aget xs L (wr (s11913.1 + 2))) fun (v12188 : Int) =>
                                              Option.bind (f_X12_above v12186 v12188 s11913.2.2) fun (q12191 : Int) =>
                                              if q12184.1 = q12191 then
                                                (some (Sum.inl (wr (s11913.1 + 6), q12184.2, s11913.2.2)))
                                              else
                                                (some (Sum.inr (Sum.inr ()))))
                                            else
                                              (if zand v11920 63 = 20 then
                                                (Option.bind (aget xs L (wr (s11913.1 + 1))) fun (v12195 : Int) =>
                                                Option.bind (aget xs L (wr (s11913.1 + 2))) fun (v12197 : Int) =>
                                                Option.bind (f_X11_on v12195 v12197 s11913.2.1) fun (q12200 : Int × Sst) =>
                                                Option.bind (aget xs L (wr (s11913.1 + 1))) fun (v12202 : Int) =>
                                                Option.bind (aget xs L (wr (s11913.1 + 2))) fun (v12204 : Int) =>
                                                Option.bind (f_X12_on v12202 v12204 s11913.2.2) fun (q12207 : Int) =>
                                                if q12200.1 = q12207 then
                                                  (some (Sum.inl (wr (s11913.1 + 6), q12200.2, s11913.2.2)))
                                                else
                                                  (some (Sum.inr (Sum.inr ()))))
                                              else
                                                (if zand v11920 63 = 21 then
                                                  (Option.bind (aget xs L (wr (s11913.1 + 1))) fun (v12211 : Int) =>
                                                  Option.bind (aget xs L (wr (s11913.1 + 2))) fun (v12213 : Int) =>
                                                  Option.bind (f_X11_depth v12211 v12213 s11913.2.1) fun (q12216 : Int × Sst) =>
                                                  Option.bind (aget xs L (wr (s11913.1 + 1))) fun (v12218 : Int) =>
                                                  Option.bind (aget xs L (wr (s11913.1 + 2))) fun (v12220 : Int) =>
                                                  Option.bind (f_X12_depth v12218 v12220 s11913.2.2) fun (q12223 : Int × Smo) =>
                                                  if q12216.1 = q12223.1 then
                                                    (some (Sum.inl (wr (s11913.1 + 6), q12216.2, q12223.2)))
                                                  else
                                                    (some (Sum.inr (Sum.inr ()))))
                                                else
                                                  (if zand v11920 63 = 22 then
                                                    (Option.bind (aget xs L (wr (s11913.1 + 1))) fun (v12227 : Int) =>
                                                    Option.bind (aget xs L (wr (s11913.1 + 2))) fun (v12229 : Int) =>
                                                    Option.bind (aget xs L (wr (s11913.1 + 3))) fun (v12231 : Int) =>
                                                    Option.bind (f_X11_gap v12227 v12229 v12231 s11913.2.1) fun (q12234 : Int × Sst) =>
                                                    Option.bind (aget xs L (wr (s11913.1 + 1))) fun (v12236 : Int) =>
                                                    Option.bind (aget xs L (wr (s11913.1 + 2))) fun (v12238 : Int) =>
                                                    Option.bind (aget xs L (wr (s11913.1 + 3))) fun (v12240 : Int) =>
                                                    Option.bind (f_X12_gap v12236 v12238 v12240 s11913.2.2) fun (q12243 : Int) =>
                                                    if q12234.1 = q12243 then
                                                      (some (Sum.inl (wr (s11913.1 + 6), q12234.2, s11913.2.2)))
                                                    else
                                                      (some (Sum.inr (Sum.inr ()))))
                                                  else
                                                    (if zand v11920 63 = 23 then
                                                      (Option.bind (aget xs L (wr (s11913.1 + 1))) fun (v12247 : Int) =>
                                                      Option.bind (aget xs L (wr (s11913.1 + 2))) fun (v12249 : Int) =>
                                                      Option.bind (f_X11_crossed v12247 v12249 s11913.2.1) fun (q12252 : Int × Sst) =>
                                                      Option.bind (aget xs L (wr (s11913.1 + 1))) fun (v12254 : Int) =>
                                                      Option.bind (aget xs L (wr (s11913.1 + 2))) fun (v12256 : Int) =>
                                                      Option.bind (f_X12_crossed v12254 v12256 s11913.2.2) fun (q12259 : Int) =>
                                                      if q12252.1 = q12259 then
                                                        (some (Sum.inl (wr (s11913.1 + 6), q12252.2, s11913.2.2)))
                                                      else
                                                        (some (Sum.inr (Sum.inr ()))))
                                                    else
                                                      (if zand v11920 63 = 24 then
                                                        (Option.bind (aget xs L (wr (s11913.1 + 1))) fun (v12263 : Int) =>
                                                        Option.bind (aget xs L (wr (s11913.1 + 2))) fun (v12265 : Int) =>
                                                        Option.bind (aget xs L (wr (s11913.1 + 3))) fun (v12267 : Int) =>
                                                        Option.bind (aget xs L (wr (s11913.1 + 4))) fun (v12269 : Int) =>
                                                        Option.bind (f_X11_same v12263 v12265 v12267 v12269 s11913.2.1) fun (q12272 : Int × Sst) =>
                                                        Option.bind (aget xs L (wr (s11913.1 + 1))) fun (v12274 : Int) =>
                                                        Option.bind (aget xs L (wr (s11913.1 + 2))) fun (v12276 : Int) =>
                                                        Option.bind (aget xs L (wr (s11913.1 + 3))) fun (v12278 : Int) =>
                                                        Option.bind (aget xs L (wr (s11913.1 + 4))) fun (v12280 : Int) =>
                                                        Option.bind (f_X12_same v12274 v12276 v12278 v12280 s11913.2.2) fun (q12283 : Int) =>
                                                        if q12272.1 = q12283 then
                                                          (some (Sum.inl (wr (s11913.1 + 6), q12272.2, s11913.2.2)))
                                                        else
                                                          (some (Sum.inr (Sum.inr ()))))
                                                      else
                                                        (if zand v11920 63 = 25 then
                                                          (Option.bind (aget xs L (wr (s11913.1 + 1))) fun (v12287 : Int) =>
                                                          Option.bind (aget xs L (wr (s11913.1 + 2))) fun (v12289 : Int) =>
                                                          Option.bind (aget xs L (wr (s11913.1 + 1))) fun (v12292 : Int) =>
                                                          Option.bind (aget xs L (wr (s11913.1 + 2))) fun (v12294 : Int) =>
                                                          Option.bind (f_X12_unlike v12292 v12294 s11913.2.2) fun (q12297 : Int) =>
                                                          if f_X11_unlike v12287 v12289 s11913.2.1 = q12297 then
                                                            (some (Sum.inl (wr (s11913.1 + 6), s11913.2.1, s11913.2.2)))
                                                          else
                                                            (some (Sum.inr (Sum.inr ()))))
                                                        else
                                                          (if zand v11920 63 = 26 then
                                                            (Option.bind (aget xs L (wr (s11913.1 + 1))) fun (v12301 : Int) =>
                                                            Option.bind (aget xs L (wr (s11913.1 + 2))) fun (v12303 : Int) =>
                                                            Option.bind (f_X11_shared v12301 v12303 s11913.2.1) fun (q12306 : Int) =>
                                                            Option.bind (aget xs L (wr (s11913.1 + 1))) fun (v12308 : Int) =>
                                                            Option.bind (aget xs L (wr (s11913.1 + 2))) fun (v12310 : Int) =>
                                                            Option.bind (f_X12_shared v12308 v12310 s11913.2.2) fun (q12313 : Int) =>
                                                            if q12306 = q12313 then
                                                              (some (Sum.inl (wr (s11913.1 + 6), s11913.2.1, s11913.2.2)))
                                                            else
                                                              (some (Sum.inr (Sum.inr ()))))
                                                          else
                                                            (if zand v11920 63 = 27 then
                                                              (Option.bind (f_X11_written s11913.2.1) fun (q12318 : Int) =>
                                                              Option.bind (f_X12_written s11913.2.2) fun (q12321 : Int) =>
                                                              if q12318 = q12321 then
                                                                (some (Sum.inl (wr (s11913.1 + 6), s11913.2.1, s11913.2.2)))
                                                              else
                                                                (some (Sum.inr (Sum.inr ()))))
                                                            else
                                                              (if zand v11920 63 = 28 then
                                                                (Option.bind (aget xs L (wr (s11913.1 + 1))) fun (v12325 : Int) =>
                                                                Option.bind (f_X11_copies v12325 s11913.2.1) fun (q12328 : Int) =>
                                                                Option.bind (aget xs L (wr (s11913.1 + 1))) fun (v12330 : Int) =>
                                                                Option.bind (f_X12_copies v12330 s11913.2.2) fun (q12333 : Int) =>
                                                                if q12328 = q12333 then
                                                                  (some (Sum.inl (wr (s11913.1 + 6), s11913.2.1, s11913.2.2)))
                                                                else
                                                                  (some (Sum.inr (Sum.inr ()))))
                                                              else
                                                                (if zand v11920 63 = 29 then
                                                                  (Option.bind (f_X11_dearest s11913.2.1) fun (q12338 : Int) =>
                                                                  Option.bind (f_X12_dearest s11913.2.2) fun (q12341 : Int) =>
                                                                  if q12338 = q12341 then
                                                                    (some (Sum.inl (wr (s11913.1 + 6), s11913.2.1, s11913.2.2)))
                                                                  else
                                                                    (some (Sum.inr (Sum.inr ()))))
                                                                else
                                                                  (if zand v11920 63 = 30 then
                                                                    (Option.bind (f_X11_paid s11913.2.1) fun (q12346 : Int) =>
                                                                    Option.bind (f_X12_paid s11913.2.2) fun (q12349 : Int) =>
                                                                    if q12346 = q12349 then
                                                                      (some (Sum.inl (wr (s11913.1 + 6), s11913.2.1, s11913.2.2)))
                                                                    else
                                                                      (some (Sum.inr (Sum.inr ()))))
                                                                  else
                                                                    (if zand v11920 63 = 31 then
                                                                      (Option.bind (f_X11_credit s11913.2.1) fun (q12354 : Int) =>
                                                                      Option.bind (f_X12_credit s11913.2.2) fun (q12357 : Int) =>
                                                                      if q12354 = q12357 then
                                                                        (some (Sum.inl (wr (s11913.1 + 6), s11913.2.1, s11913.2.2)))
                                                                      else
                                                                        (some (Sum.inr (Sum.inr ()))))
                                                                    else
                                                                      (if zand v11920 63 = 32 then
                                                                        (Option.bind (aget xs L (wr (s11913.1 + 1))) fun (v12361 : Int) =>
                                                                        Option.bind (f_X11_law v12361 s11913.2.1) fun (q12364 : Int × Sst) =>
                                                                        Option.bind (aget xs L (wr (s11913.1 + 1))) fun (v12366 : Int) =>
                                                                        Option.bind (f_X12_law v12366 s11913.2.2) fun (q12369 : Int × Smo) =>
                                                                        if q12364.1 = q12369.1 then
                                                                          (some (Sum.inl (wr (s11913.1 + 6), q12364.2, q12369.2)))
                                                                        else
                                                                          (some (Sum.inr (Sum.inr ()))))
                                                                      else
                                                                        (if zand v11920 63 = 33 then
                                                                          (Option.bind (f_X11_busiest s11913.2.1) fun (q12374 : Int) =>
                                                                          Option.bind (f_X12_busiest s11913.2.2) fun (q12377 : Int) =>
                                                                          if q12374 = q12377 then
                                                                            (some (Sum.inl (wr (s11913.1 + 6), s11913.2.1, s11913.2.2)))
                                                                          else
                                                                            (some (Sum.inr (Sum.inr ()))))
                                                                        else
                                                                          (if zand v11920 63 = 34 then
                                                                            (Option.bind (f_X11_widest s11913.2.1) fun (q12382 : Int) =>
                                                                            Option.bind (f_X12_widest s11913.2.2) fun (q12385 : Int) =>
                                                                            if q12382 = q12385 then
                                                                              (some (Sum.inl (wr (s11913.1 + 6), s11913.2.1, s11913.2.2)))
                                                                            else
                                                                              (some (Sum.inr (Sum.inr ()))))
                                                                          else
                                                                            (if zand v11920 63 = 35 then
                                                                              (Option.bind (f_X11_highest s11913.2.1) fun (q12390 : Int × Sst) =>
                                                                              Option.bind (f_X12_highest s11913.2.2) fun (q12393 : Int × Smo) =>
                                                                              if q12390.1 = q12393.1 then
                                                                                (some (Sum.inl (wr (s11913.1 + 6), q12390.2, q12393.2)))
                                                                              else
                                                                                (some (Sum.inr (Sum.inr ()))))
                                                                            else
                                                                              (if zand v11920 63 = 36 then
                                                                                (Option.bind (aget xs L (wr (s11913.1 + 1))) fun (v12397 : Int) =>
                                                                                Option.bind (f_X11_stays v12397 s11913.2.1) fun (q12400 : Int) =>
                                                                                Option.bind (aget xs L (wr (s11913.1 + 1))) fun (v12402 : Int) =>
                                                                                Option.bind (f_X12_stays v12402 s11913.2.2) fun (q12405 : Int) =>
                                                                                if q12400 = q12405 then
                                                                                  (some (Sum.inl (wr (s11913.1 + 6), s11913.2.1, s11913.2.2)))
                                                                                else
                                                                                  (some (Sum.inr (Sum.inr ()))))
                                                                              else
                                                                                (if zand v11920 63 = 37 then
                                                                                  (Option.bind (aget xs L (wr (s11913.1 + 1))) fun (v12409 : Int) =>
                                                                                  Option.bind (aget xs L (wr (s11913.1 + 2))) fun (v12411 : Int) =>
                                                                                  Option.bind (f_X11_sight v12409 v12411 s11913.2.1) fun (q12414 : Int × Sst) =>
                                                                                  Option.bind (aget xs L (wr (s11913.1 + 1))) fun (v12416 : Int) =>
                                                                                  Option.bind (aget xs L (wr (s11913.1 + 2))) fun (v12418 : Int) =>
                                                                                  Option.bind (f_X12_sight v12416 v12418 s11913.2.2) fun (q12421 : Int × Smo) =>
                                                                                  if q12414.1 = q12421.1 then
                                                                                    (some (Sum.inl (wr (s11913.1 + 6), q12414.2, q12421.2)))
                                                                                  else
                                                                                    (some (Sum.inr (Sum.inr ()))))
                                                                                else
                                                                                  (if zand v11920 63 = 38 then
                                                                                    (Option.bind (f_X11_trapezes s11913.2.1) fun (q12426 : Int × Sst) =>
                                                                                    Option.bind (f_X12_trapezes s11913.2.2) fun (q12429 : Int × Smo) =>
                                                                                    if q12426.1 = q12429.1 then
                                                                                      (some (Sum.inl (wr (s11913.1 + 6), q12426.2, q12429.2)))
                                                                                    else
                                                                                      (some (Sum.inr (Sum.inr ()))))
                                                                                  else
                                                                                    (if zand v11920 63 = 39 then
                                                                                      (Option.bind (aget xs L (wr (s11913.1 + 1))) fun (v12433 : Int) =>
                                                                                      Option.bind (f_X11_area v12433 s11913.2.1) fun (q12436 : Int × Sst) =>
                                                                                      Option.bind (aget xs L (wr (s11913.1 + 1))) fun (v12438 : Int) =>
                                                                                      Option.bind (f_X12_area v12438 s11913.2.2) fun (q12441 : Int × Smo) =>
                                                                                      if q12436.1 = q12441.1 then
                                                                                        (some (Sum.inl (wr (s11913.1 + 6), q12436.2, q12441.2)))
                                                                                      else
                                                                                        (some (Sum.inr (Sum.inr ()))))
                                                                                    else
                                                                                      (if zand v11920 63 = 40 then
                                                                                        (Option.bind (f_X11_largest s11913.2.1) fun (q12446 : Int × Sst) =>
                                                                                        Option.bind (f_X12_largest s11913.2.2) fun (q12449 : Int × Smo) =>
                                                                                        if q12446.1 = q12449.1 then
                                                                                          (some (Sum.inl (wr (s11913.1 + 6), q12446.2, q12449.2)))
                                                                                        else
                                                                                          (some (Sum.inr (Sum.inr ()))))
                                                                                      else
                                                                                        (if zand v11920 63 = 41 then
                                                                                          (Option.bind (aget xs L (wr (s11913.1 + 1))) fun (v12453 : Int) =>
                                                                                          Option.bind (f_X11_hidden v12453 s11913.2.1) fun (q12456 : Int × Sst) =>
                                                                                          Option.bind (aget xs L (wr (s11913.1 + 1))) fun (v12458 : Int) =>
                                                                                          Option.bind (f_X12_hidden v12458 s11913.2.2) fun (q12461 : Int) =>
                                                                                          if q12456.1 = q12461 then
                                                                                            (some (Sum.inl (wr (s11913.1 + 6), q12456.2, s11913.2.2)))
                                                                                          else
                                                                                            (some (Sum.inr (Sum.inr ()))))
                                                                                        else
                                                                                          (if zand v11920 63 = 42 then
                                                                                            (Option.bind (f_X12_next s11913.2.2) fun (q12467 : Int) =>
                                                                                            if f_X11_next s11913.2.1 = q12467 then
                                                                                              (some (Sum.inl (wr (s11913.1 + 6), s11913.2.1, s11913.2.2)))
                                                                                            else
                                                                                              (some (Sum.inr (Sum.inr ()))))
                                                                                          else
                                                                                            (if zand v11920 63 = 43 then
                                                                                              (if f_X11_events s11913.2.1 = f_X12_events s11913.2.2 then
                                                                                                (some (Sum.inl (wr (s11913.1 + 6), s11913.2.1, s11913.2.2)))
                                                                                              else
                                                                                                (some (Sum.inr (Sum.inr ()))))
                                                                                            else
                                                                                              (if zand v11920 63 = 44 then
                                                                                                (Option.bind (aget xs L (wr (s11913.1 + 1))) fun (v12475 : Int) =>
                                                                                                Option.bind (aget xs L (wr (s11913.1 + 1))) fun (v12478 : Int) =>
                                                                                                Option.bind (f_X12_lies v12478 s11913.2.2) fun (q12481 : Int) =>
                                                                                                if f_X11_lies v12475 s11913.2.1 = q12481 then
                                                                                                  (some (Sum.inl (wr (s11913.1 + 6), s11913.2.1, s11913.2.2)))
                                                                                                else
                                                                                                  (some (Sum.inr (Sum.inr ()))))
                                                                                              else
                                                                                                (if zand v11920 63 = 45 then
                                                                                                  (Option.bind (aget xs L (wr (s11913.1 + 1))) fun (v12485 : Int) =>
                                                                                                  Option.bind (aget xs L (wr (s11913.1 + 2))) fun (v12487 : Int) =>
                                                                                                  jn (
                                                                                                    if v12487 = 0 then
                                                                                                      (0)
                                                                                                    else
                                                                                                      (1)) fun (q12489 : Int) =>
                                                                                                  jn (f_X11_seen v12485 q12489 s11913.2.1) fun (q12495 : Int × Sst) =>
                                                                                                  Option.bind (aget xs L (wr (s11913.1 + 1))) fun (v12497 : Int) =>
                                                                                                  Option.bind (aget xs L (wr (s11913.1 + 2))) fun (v12499 : Int) =>
                                                                                                  jn (
                                                                                                    if v12499 = 0 then
                                                                                                      (0)
                                                                                                    else
                                                                                                      (1)) fun (q12501 : Int) =>
                                                                                                  Option.bind (f_X12_seen v12497 q12501 s11913.2.2) fun (q12507 : Int × Smo) =>
                                                                                                  if q12495.1 = q12507.1 then
                                                                                                    (some (Sum.inl (wr (s11913.1 + 6), q12495.2, q12507.2)))
                                                                                                  else
                                                                                                    (some (Sum.inr (Sum.inr ()))))
                                                                                                else
                                                                                                  (if zand v11920 63 = 46 then
                                                                                                    (Option.bind (aget xs L (wr (s11913.1 + 1))) fun (v12511 : Int) =>
                                                                                                    jn (f_X11_untell v12511 s11913.2.1) fun (q12514 : Int × Sst) =>
                                                                                                    Option.bind (aget xs L (wr (s11913.1 + 1))) fun (v12516 : Int) =>
                                                                                                    Option.bind (f_X12_untell v12516 s11913.2.2) fun (q12519 : Int × Smo) =>
                                                                                                    if q12514.1 = q12519.1 then
                                                                                                      (some (Sum.inl (wr (s11913.1 + 6), q12514.2, q12519.2)))
                                                                                                    else
                                                                                                      (some (Sum.inr (Sum.inr ()))))
                                                                                                  else
                                                                                                    (if zand v11920 63 = 47 then
                                                                                                      (Option.bind (aget xs L (wr (s11913.1 + 1))) fun (v12523 : Int) =>
                                                                                                      jn (f_X11_later v12523 s11913.2.1) fun (q12526 : Int × Sst) =>
                                                                                                      Option.bind (aget xs L (wr (s11913.1 + 1))) fun (v12528 : Int) =>
                                                                                                      jn (f_X12_later v12528 s11913.2.2) fun (q12531 : Int × Smo) =>
                                                                                                      if q12526.1 = q12531.1 then
                                                                                                        (some (Sum.inl (wr (s11913.1 + 6), q12526.2, q12531.2)))
                                                                                                      else
                                                                                                        (some (Sum.inr (Sum.inr ()))))
                                                                                                    else
                                                                                                      (if zand v11920 63 = 48 then
                                                                                                        (Option.bind (aget xs L (wr (s11913.1 + 1))) fun (v12535 : Int) =>
                                                                                                        Option.bind (aget xs L (wr (s11913.1 + 2))) fun (v12537 : Int) =>
                                                                                                        Option.bind (f_X11_fits v12535 v12537 s11913.2.1) fun (q12540 : Int × Sst) =>
                                                                                                        Option.bind (aget xs L (wr (s11913.1 + 1))) fun (v12542 : Int) =>
                                                                                                        Option.bind (aget xs L (wr (s11913.1 + 2))) fun (v12544 : Int) =>
                                                                                                        Option.bind (f_X12_fits v12542 v12544 s11913.2.2) fun (q12547 : Int × Smo) =>
                                                                                                        if q12540.1 = q12547.1 then
                                                                                                          (some (Sum.inl (wr (s11913.1 + 6), q12540.2, q12547.2)))
                                                                                                        else
                                                                                                          (some (Sum.inr (Sum.inr ()))))
                                                                                                      else
                                                                                                        (if zand v11920 63 = 49 then
                                                                                                          (Option.bind (aget xs L (wr (s11913.1 + 1))) fun (v12551 : Int) =>
                                                                                                          Option.bind (aget xs L (wr (s11913.1 + 2))) fun (v12553 : Int) =>
                                                                                                          Option.bind (aget xs L (wr (s11913.1 + 3))) fun (v12555 : Int) =>
                                                                                                          Option.bind (f_X11_sure v12551 v12553 v12555 s11913.2.1) fun (q12558 : Int × Sst) =>
                                                                                                          Option.bind (aget xs L (wr (s11913.1 + 1))) fun (v12560 : Int) =>
                                                                                                          Option.bind (aget xs L (wr (s11913.1 + 2))) fun (v12562 : Int) =>
                                                                                                          Option.bind (aget xs L (wr (s11913.1 + 3))) fun (v12564 : Int) =>
                                                                                                          Option.bind (f_X12_sure v12560 v12562 v12564 s11913.2.2) fun (q12567 : Int × Smo) =>
                                                                                                          if q12558.1 = q12567.1 then
                                                                                                            (some (Sum.inl (wr (s11913.1 + 6), q12558.2, q12567.2)))
                                                                                                          else
                                                                                                            (some (Sum.inr (Sum.inr ()))))
                                                                                                        else
                                                                                                          (if zand v11920 63 = 50 then
                                                                                                            (Option.bind (aget xs L (wr (s11913.1 + 1))) fun (v12571 : Int) =>
                                                                                                            Option.bind (aget xs L (wr (s11913.1 + 2))) fun (v12573 : Int) =>
                                                                                                            Option.bind (aget xs L (wr (s11913.1 + 3))) fun (v12575 : Int) =>
                                                                                                            Option.bind (f_X11_ask v12571 v12573 v12575 s11913.2.1) fun (q12578 : Int × Sst) =>
                                                                                                            Option.bind (aget xs L (wr (s11913.1 + 1))) fun (v12580 : Int) =>
                                                                                                            Option.bind (aget xs L (wr (s11913.1 + 2))) fun (v12582 : Int) =>
                                                                                                            Option.bind (aget xs L (wr (s11913.1 + 3))) fun (v12584 : Int) =>
                                                                                                            Option.bind (f_X12_ask v12580 v12582 v12584 s11913.2.2) fun (q12587 : Int × Smo) =>
                                                                                                            if q12578.1 = q12587.1 then
                                                                                                              (some (Sum.inl (wr (s11913.1 + 6), q12578.2, q12587.2)))
                                                                                                            else
                                                                                                              (some (Sum.inr (Sum.inr ()))))
                                                                                                          else
                                                                                                            (if zand v11920 63 = 51 then
                                                                                                              (Option.bind (aget xs L (wr (s11913.1 + 1))) fun (v12591 : Int) =>
                                                                                                              jn (f_X11_image v12591 s11913.2.1) fun (q12594 : Int × Sst) =>
                                                                                                              Option.bind (aget xs L (wr (s11913.1 + 1))) fun (v12596 : Int) =>
                                                                                                              Option.bind (f_X12_image v12596 s11913.2.2) fun (q12599 : Int × Smo) =>
                                                                                                              if q12594.1 = q12599.1 then
                                                                                                                (some (Sum.inl (wr (s11913.1 + 6), q12594.2, q12599.2)))
                                                                                                              else
                                                                                                                (some (Sum.inr (Sum.inr ()))))
                                                                                                            else
                                                                                                              (if zand v11920 63 = 52 then
                                                                                                                (Option.bind (aget xs L (wr (s11913.1 + 1))) fun (v12603 : Int) =>
                                                                                                                jn (f_X11_back v12603 s11913.2.1) fun (q12606 : Int × Sst) =>
                                                                                                                Option.bind (aget xs L (wr (s11913.1 + 1))) fun (v12608 : Int) =>
                                                                                                                Option.bind (f_X12_back v12608 s11913.2.2) fun (q12611 : Int × Smo) =>
                                                                                                                if q12606.1 = q12611.1 then
                                                                                                                  (some (Sum.inl (wr (s11913.1 + 6), q12606.2, q12611.2)))
                                                                                                                else
                                                                                                                  (some (Sum.inr (Sum.inr ()))))
                                                                                                              else
                                                                                                                (if zand v11920 63 = 53 then
                                                                                                                  (Option.bind (aget xs L (wr (s11913.1 + 1))) fun (v12615 : Int) =>
                                                                                                                  Option.bind (aget xs L (wr (s11913.1 + 1))) fun (v12618 : Int) =>
                                                                                                                  Option.bind (f_X12_about v12618 s11913.2.2) fun (q12621 : Int) =>
                                                                                                                  if f_X11_about v12615 s11913.2.1 = q12621 then
                                                                                                                    (some (Sum.inl (wr (s11913.1 + 6), s11913.2.1, s11913.2.2)))
                                                                                                                  else
                                                                                                                    (some (Sum.inr (Sum.inr ()))))
                                                                                                                else
                                                                                                                  (some (Sum.inl (wr (s11913.1 + 6), s11913.2.1, s11913.2.2)))))))))))))))))))))))))))))))))))))))))))))))))))))))))) FU (0, q11909, q11911)) fun z12626 => Sum.elim (fun (r12624 : Sst × Smo) =>
    some 1) (fun (_u : Unit) =>
    some 0) z12626

set_option maxRecDepth 100000 in
set_option maxHeartbeats 40000000 in
theorem law_walk {E : EwT} {K : KxT} {S : Sst} {O : Smo} {b L : Nat} {ys : Nat → Int32} {xs : Nat → Int} (hxs : xs = fun k => (ys k).toInt) (C : Cx E K yL_law code 4 (rmk 15 586 600000 7302250) ret) (hX : Scr E K b L ys) (hK : LawK E K b) : GG E K (some (1 : Int)) 0 (RT 0) S O 0 0 [(0, .ref b)] 0 [] (f_law xs L S O) := by
  subst hxs
  have hLI : IR (L : Int) := by have := hX.2.2.2; exact ⟨by omega, by omega⟩
  unfold f_law
  refine r_new (n := 0) C cl_X11 kd_0 q_147 q_148 q_127 dL_law_0 (by decide) (by decide) ?_
  refine r_dup C dL_law_3 rfl ?_
  refine r_bd (fun q11909 e11910 => ?_)
  refine r_callI (pc := 4) (k := 0) (As := []) (st := [.ref (zad E 0)]) C (i_X11_init_0 e11910) cal_X11_init q_149 dL_law_4 rfl rfl (Nat.le_of_ble_eq_true rfl) (Nat.le_of_ble_eq_true rfl) (Nat.le_of_ble_eq_true rfl) (Nat.le_of_ble_eq_true rfl) (Nat.le_of_ble_eq_true rfl) (fun _ => ?_)
  refine r_astore_n (L' := [(1, .ref (zad E 0)), (0, .ref b)]) C dL_law_7 rfl (by decide) rfl ?_
  refine r_new (n := 262) C cl_X12 kd_262 q_1547 q_1548 q_144 dL_law_8 (by decide) (by decide) ?_
  refine r_dup C dL_law_11 rfl ?_
  refine r_jn (fun q11911 e11912 => ?_)
  refine r_callI (pc := 12) (k := 262) (As := []) (st := [.ref (zad E 262)]) C (i_X12_init_262 e11912) cal_X12_init q_1549 dL_law_12 rfl rfl (Nat.le_of_ble_eq_true rfl) (Nat.le_of_ble_eq_true rfl) (Nat.le_of_ble_eq_true rfl) (Nat.le_of_ble_eq_true rfl) (Nat.le_of_ble_eq_true rfl) (fun _ => ?_)
  refine r_astore_n (L' := [(2, .ref (zad E 262)), (1, .ref (zad E 0)), (0, .ref b)]) C dL_law_15 rfl (by decide) rfl ?_
  refine r_whole ?_
  refine r_iconst (v := 0) C dL_law_16 (by decide) ?_
  refine r_istore_n (L' := [(3, .int (zi 0)), (2, .ref (zad E 262)), (1, .ref (zad E 0)), (0, .ref b)]) C dL_law_17 rfl (by decide) rfl ?_
  refine r_L (L' := [(0, .ref b), (1, .ref (zad E 0)), (2, .ref (zad E 262)), (3, .int (zi 0))]) [3, 2, 1, 0] rfl ?_
  refine r_loopL (fun s11913 : Int × Sst × Smo => IR s11913.1) (fun s11913 => s11913.2.1) (fun s11913 => s11913.2.2) (fun s11913 => [(0, .ref b), (1, .ref (zad E 0)), (2, .ref (zad E 262)), (3, .int (zi s11913.1))]) [] (fun r12624 : Sst × Smo => True) (fun r12624 => r12624.1) (fun r12624 => r12624.2) (fun r12624 => []) 1698 (fun r12624 h12625 => ?_) (fun k11915 k11917 k11916 k11918 s11913 h11914 => ?_) (IRd rfl)
  · refine r_iconst (v := 1) C dL_law_1698 (by decide) ?_
    exact r_lawret C ⟨hK, by decide, by decide⟩ dL_law_1699
  · refine r_iload_n (pc := 18) (j := 3) C dL_law_18 rfl rfl ?_
    refine r_aload_n (pc := 19) (j := 0) C dL_law_19 rfl rfl ?_
    refine r_slen C hX dL_law_20 ?_
    refine r_bipush (v := 6) C dL_law_21 (by decide) ?_
    refine r_isub C dL_law_23 ?_
    refine r_icmp_gt (tgt := 1698) C h11914 (IR_wr _) dL_law_24 (by decide) (fun c11919 => ?_) (fun c11919 => ?_)
    · refine r_bt c11919 ?_
      refine r_L (L' := []) [] rfl ?_
      exact k11918 (s11913.2.1, s11913.2.2) trivial
    · refine r_bf c11919 ?_
      refine r_aload_n (pc := 27) (j := 0) C dL_law_27 rfl rfl ?_
      refine r_iload_n (pc := 28) (j := 3) C dL_law_28 rfl rfl ?_
      refine r_bb ?_
      refine r_sld C hX h11914 dL_law_29 (fun v11920 h11921 => ?_)
      refine r_bipush (v := 63) C dL_law_30 (by decide) ?_
      refine r_iand C dL_law_32 ?_
      by_cases c11922 : (zand v11920 63 = 0)
      · refine r_bt c11922 ?_
        refine r_tswIn (kx := 0) (tgt := 264) C (i32_IR _) dL_law_33 c11922 (by decide) (by decide) rfl (by decide) ?_
        refine r_aload_n (pc := 264) (j := 1) C dL_law_264 rfl rfl ?_
        refine r_aload_n (pc := 265) (j := 0) C dL_law_265 rfl rfl ?_
        refine r_iload_n (pc := 266) (j := 3) C dL_law_266 rfl rfl ?_
        refine r_iconst (v := 1) C dL_law_267 (by decide) ?_
        refine r_iadd C dL_law_268 ?_
        refine r_bb ?_
        refine r_sld C hX (IR_wr _) dL_law_269 (fun v11923 h11924 => ?_)
        refine r_aload_n (pc := 270) (j := 0) C dL_law_270 rfl rfl ?_
        refine r_iload_n (pc := 271) (j := 3) C dL_law_271 rfl rfl ?_
        refine r_iconst (v := 2) C dL_law_272 (by decide) ?_
        refine r_iadd C dL_law_273 ?_
        refine r_bb ?_
        refine r_sld C hX (IR_wr _) dL_law_274 (fun v11925 h11926 => ?_)
        refine r_aload_n (pc := 275) (j := 0) C dL_law_275 rfl rfl ?_
        refine r_iload_n (pc := 276) (j := 3) C dL_law_276 rfl rfl ?_
        refine r_iconst (v := 3) C dL_law_277 (by decide) ?_
        refine r_iadd C dL_law_278 ?_
        refine r_bb ?_
        refine r_sld C hX (IR_wr _) dL_law_279 (fun v11927 h11928 => ?_)
        refine r_aload_n (pc := 280) (j := 0) C dL_law_280 rfl rfl ?_
        refine r_iload_n (pc := 281) (j := 3) C dL_law_281 rfl rfl ?_
        refine r_iconst (v := 4) C dL_law_282 (by decide) ?_
        refine r_iadd C dL_law_283 ?_
        refine r_bb ?_
        refine r_sld C hX (IR_wr _) dL_law_284 (fun v11929 h11930 => ?_)
        refine r_aload_n (pc := 285) (j := 0) C dL_law_285 rfl rfl ?_
        refine r_iload_n (pc := 286) (j := 3) C dL_law_286 rfl rfl ?_
        refine r_iconst (v := 5) C dL_law_287 (by decide) ?_
        refine r_iadd C dL_law_288 ?_
        refine r_bb ?_
        refine r_sld C hX (IR_wr _) dL_law_289 (fun v11931 h11932 => ?_)
        refine r_bb ?_
        refine r_bd (fun q11934 e11935 => ?_)
        refine r_cV1 (pc := 290) (k := 0) (As := [.int (zi v11923), .int (zi v11925), .int (zi v11927), .int (zi v11929), .int (zi v11931)]) (st := []) C (m_X11_feed (a1 := v11923) (a2 := v11925) (a3 := v11927) (a4 := v11929) (a5 := v11931) h11924 h11926 h11928 h11930 h11932 e11935) cal_X11_feed cl_X11 kd_0 ln_0 q_732 dL_law_290 rfl rfl (Nat.le_of_ble_eq_true rfl) (Nat.le_of_ble_eq_true rfl) (Nat.le_of_ble_eq_true rfl) (Nat.le_of_ble_eq_true rfl) (Nat.le_of_ble_eq_true rfl) (fun h11933 => ?_)
        refine r_aload_n (pc := 293) (j := 2) C dL_law_293 rfl rfl ?_
        refine r_aload_n (pc := 294) (j := 0) C dL_law_294 rfl rfl ?_
        refine r_iload_n (pc := 295) (j := 3) C dL_law_295 rfl rfl ?_
        refine r_iconst (v := 1) C dL_law_296 (by decide) ?_
        refine r_iadd C dL_law_297 ?_
        refine r_bb ?_
        refine r_sld C hX (IR_wr _) dL_law_298 (fun v11936 h11937 => ?_)
        refine r_aload_n (pc := 299) (j := 0) C dL_law_299 rfl rfl ?_
        refine r_iload_n (pc := 300) (j := 3) C dL_law_300 rfl rfl ?_
        refine r_iconst (v := 2) C dL_law_301 (by decide) ?_
        refine r_iadd C dL_law_302 ?_
        refine r_bb ?_
        refine r_sld C hX (IR_wr _) dL_law_303 (fun v11938 h11939 => ?_)
        refine r_aload_n (pc := 304) (j := 0) C dL_law_304 rfl rfl ?_
        refine r_iload_n (pc := 305) (j := 3) C dL_law_305 rfl rfl ?_
        refine r_iconst (v := 3) C dL_law_306 (by decide) ?_
        refine r_iadd C dL_law_307 ?_
        refine r_bb ?_
        refine r_sld C hX (IR_wr _) dL_law_308 (fun v11940 h11941 => ?_)
        refine r_aload_n (pc := 309) (j := 0) C dL_law_309 rfl rfl ?_
        refine r_iload_n (pc := 310) (j := 3) C dL_law_310 rfl rfl ?_
        refine r_iconst (v := 4) C dL_law_311 (by decide) ?_
        refine r_iadd C dL_law_312 ?_
        refine r_bb ?_
        refine r_sld C hX (IR_wr _) dL_law_313 (fun v11942 h11943 => ?_)
        refine r_aload_n (pc := 314) (j := 0) C dL_law_314 rfl rfl ?_
        refine r_iload_n (pc := 315) (j := 3) C dL_law_315 rfl rfl ?_
        refine r_iconst (v := 5) C dL_law_316 (by decide) ?_
        refine r_iadd C dL_law_317 ?_
        refine r_bb ?_
        refine r_sld C hX (IR_wr _) dL_law_318 (fun v11944 h11945 => ?_)
        refine r_bb ?_
        refine r_bd (fun q11947 e11948 => ?_)
        refine r_cV1 (pc := 319) (k := 262) (As := [.int (zi v11936), .int (zi v11938), .int (zi v11940), .int (zi v11942), .int (zi v11944)]) (st := [.int (zi q11934.1)]) C (m_X12_feed (a1 := v11936) (a2 := v11938) (a3 := v11940) (a4 := v11942) (a5 := v11944) h11937 h11939 h11941 h11943 h11945 e11948) cal_X12_feed cl_X12 kd_262 ln_262 q_1795 dL_law_319 rfl rfl (Nat.le_of_ble_eq_true rfl) (Nat.le_of_ble_eq_true rfl) (Nat.le_of_ble_eq_true rfl) (Nat.le_of_ble_eq_true rfl) (Nat.le_of_ble_eq_true rfl) (fun h11946 => ?_)
        refine r_icmp_eq (tgt := 1692) C h11933 h11946 dL_law_322 (by decide) (fun c11949 => ?_) (fun c11949 => ?_)
        · refine r_bt c11949 ?_
          refine r_iinc (j := 3) (L' := [(3, .int (zi (wr (s11913.1 + 6)))), (0, .ref b), (1, .ref (zad E 0)), (2, .ref (zad E 262))]) C dL_law_1692 rfl (by decide) rfl ?_
          refine r_goto (tgt := 18) C dL_law_1695 (by decide) ?_
          refine r_L (L' := [(0, .ref b), (1, .ref (zad E 0)), (2, .ref (zad E 262)), (3, .int (zi (wr (s11913.1 + 6))))]) [1, 2, 3, 0] rfl ?_
          exact k11916 (wr (s11913.1 + 6), q11934.2, q11947.2) (IR_wr _)
        · refine r_bf c11949 ?_
          exact fun e => by cases e
      · refine r_bf c11922 ?_
        by_cases c11950 : (zand v11920 63 = 1)
        · refine r_bt c11950 ?_
          refine r_tswIn (kx := 1) (tgt := 327) C (i32_IR _) dL_law_33 c11950 (by decide) (by decide) rfl (by decide) ?_
          refine r_aload_n (pc := 327) (j := 1) C dL_law_327 rfl rfl ?_
          refine r_aload_n (pc := 328) (j := 0) C dL_law_328 rfl rfl ?_
          refine r_iload_n (pc := 329) (j := 3) C dL_law_329 rfl rfl ?_
          refine r_iconst (v := 1) C dL_law_330 (by decide) ?_
          refine r_iadd C dL_law_331 ?_
          refine r_bb ?_
          refine r_sld C hX (IR_wr _) dL_law_332 (fun v11951 h11952 => ?_)
          refine r_bj ?_
          refine r_jn (fun q11954 e11955 => ?_)
          refine r_cV1 (pc := 333) (k := 0) (As := [.int (zi v11951)]) (st := []) C (m_X11_end (a1 := v11951) h11952 e11955) cal_X11_end cl_X11 kd_0 ln_0 q_745 dL_law_333 rfl rfl (Nat.le_of_ble_eq_true rfl) (Nat.le_of_ble_eq_true rfl) (Nat.le_of_ble_eq_true rfl) (Nat.le_of_ble_eq_true rfl) (Nat.le_of_ble_eq_true rfl) (fun h11953 => ?_)
          refine r_aload_n (pc := 336) (j := 2) C dL_law_336 rfl rfl ?_
          refine r_aload_n (pc := 337) (j := 0) C dL_law_337 rfl rfl ?_
          refine r_iload_n (pc := 338) (j := 3) C dL_law_338 rfl rfl ?_
          refine r_iconst (v := 1) C dL_law_339 (by decide) ?_
          refine r_iadd C dL_law_340 ?_
          refine r_bb ?_
          refine r_sld C hX (IR_wr _) dL_law_341 (fun v11956 h11957 => ?_)
          refine r_bj ?_
          refine r_jn (fun q11959 e11960 => ?_)
          refine r_cV1 (pc := 342) (k := 262) (As := [.int (zi v11956)]) (st := [.int (zi q11954.1)]) C (m_X12_end (a1 := v11956) h11957 e11960) cal_X12_end cl_X12 kd_262 ln_262 q_1803 dL_law_342 rfl rfl (Nat.le_of_ble_eq_true rfl) (Nat.le_of_ble_eq_true rfl) (Nat.le_of_ble_eq_true rfl) (Nat.le_of_ble_eq_true rfl) (Nat.le_of_ble_eq_true rfl) (fun h11958 => ?_)
          refine r_icmp_eq (tgt := 1692) C h11953 h11958 dL_law_345 (by decide) (fun c11961 => ?_) (fun c11961 => ?_)
          · refine r_bt c11961 ?_
            refine r_iinc (j := 3) (L' := [(3, .int (zi (wr (s11913.1 + 6)))), (0, .ref b), (1, .ref (zad E 0)), (2, .ref (zad E 262))]) C dL_law_1692 rfl (by decide) rfl ?_
            refine r_goto (tgt := 18) C dL_law_1695 (by decide) ?_
            refine r_L (L' := [(0, .ref b), (1, .ref (zad E 0)), (2, .ref (zad E 262)), (3, .int (zi (wr (s11913.1 + 6))))]) [1, 2, 3, 0] rfl ?_
            exact k11916 (wr (s11913.1 + 6), q11954.2, q11959.2) (IR_wr _)
          · refine r_bf c11961 ?_
            exact fun e => by cases e
        · refine r_bf c11950 ?_
          by_cases c11962 : (zand v11920 63 = 2)
          · refine r_bt c11962 ?_
            refine r_tswIn (kx := 2) (tgt := 350) C (i32_IR _) dL_law_33 c11962 (by decide) (by decide) rfl (by decide) ?_
            refine r_aload_n (pc := 350) (j := 1) C dL_law_350 rfl rfl ?_
            refine r_bb ?_
            refine r_bd (fun q11964 e11965 => ?_)
            refine r_cV1 (pc := 351) (k := 0) (As := []) (st := []) C (m_X11_map  e11965) cal_X11_map cl_X11 kd_0 ln_0 q_750 dL_law_351 rfl rfl (Nat.le_of_ble_eq_true rfl) (Nat.le_of_ble_eq_true rfl) (Nat.le_of_ble_eq_true rfl) (Nat.le_of_ble_eq_true rfl) (Nat.le_of_ble_eq_true rfl) (fun h11963 => ?_)
            refine r_aload_n (pc := 354) (j := 2) C dL_law_354 rfl rfl ?_
            refine r_bb ?_
            refine r_bd (fun q11967 e11968 => ?_)
            refine r_cV1 (pc := 355) (k := 262) (As := []) (st := [.int (zi q11964.1)]) C (m_X12_map  e11968) cal_X12_map cl_X12 kd_262 ln_262 q_1807 dL_law_355 rfl rfl (Nat.le_of_ble_eq_true rfl) (Nat.le_of_ble_eq_true rfl) (Nat.le_of_ble_eq_true rfl) (Nat.le_of_ble_eq_true rfl) (Nat.le_of_ble_eq_true rfl) (fun h11966 => ?_)
            refine r_icmp_eq (tgt := 1692) C h11963 h11966 dL_law_358 (by decide) (fun c11969 => ?_) (fun c11969 => ?_)
            · refine r_bt c11969 ?_
              refine r_iinc (j := 3) (L' := [(3, .int (zi (wr (s11913.1 + 6)))), (0, .ref b), (1, .ref (zad E 0)), (2, .ref (zad E 262))]) C dL_law_1692 rfl (by decide) rfl ?_
              refine r_goto (tgt := 18) C dL_law_1695 (by decide) ?_
              refine r_L (L' := [(0, .ref b), (1, .ref (zad E 0)), (2, .ref (zad E 262)), (3, .int (zi (wr (s11913.1 + 6))))]) [1, 2, 3, 0] rfl ?_
              exact k11916 (wr (s11913.1 + 6), q11964.2, q11967.2) (IR_wr _)
            · refine r_bf c11969 ?_
              exact fun e => by cases e
          · refine r_bf c11962 ?_
            by_cases c11970 : (zand v11920 63 = 3)
            · refine r_bt c11970 ?_
              refine r_tswIn (kx := 3) (tgt := 363) C (i32_IR _) dL_law_33 c11970 (by decide) (by decide) rfl (by decide) ?_
              refine r_aload_n (pc := 363) (j := 1) C dL_law_363 rfl rfl ?_
              refine r_aload_n (pc := 364) (j := 0) C dL_law_364 rfl rfl ?_
              refine r_iload_n (pc := 365) (j := 3) C dL_law_365 rfl rfl ?_
              refine r_iconst (v := 1) C dL_law_366 (by decide) ?_
              refine r_iadd C dL_law_367 ?_
              refine r_bb ?_
              refine r_sld C hX (IR_wr _) dL_law_368 (fun v11971 h11972 => ?_)
              refine r_cV1 (pc := 369) (k := 0) (As := [.int (zi v11971)]) (st := []) C (m_X11_fault (a1 := v11971) h11972 rfl) cal_X11_fault cl_X11 kd_0 ln_0 q_1027 dL_law_369 rfl rfl (Nat.le_of_ble_eq_true rfl) (Nat.le_of_ble_eq_true rfl) (Nat.le_of_ble_eq_true rfl) (Nat.le_of_ble_eq_true rfl) (Nat.le_of_ble_eq_true rfl) (fun h11973 => ?_)
              refine r_aload_n (pc := 372) (j := 2) C dL_law_372 rfl rfl ?_
              refine r_aload_n (pc := 373) (j := 0) C dL_law_373 rfl rfl ?_
              refine r_iload_n (pc := 374) (j := 3) C dL_law_374 rfl rfl ?_
              refine r_iconst (v := 1) C dL_law_375 (by decide) ?_
              refine r_iadd C dL_law_376 ?_
              refine r_bb ?_
              refine r_sld C hX (IR_wr _) dL_law_377 (fun v11974 h11975 => ?_)
              refine r_cV1 (pc := 378) (k := 262) (As := [.int (zi v11974)]) (st := [.int (zi (f_X11_fault v11971 s11913.2.1))]) C (m_X12_fault (a1 := v11974) h11975 rfl) cal_X12_fault cl_X12 kd_262 ln_262 q_1969 dL_law_378 rfl rfl (Nat.le_of_ble_eq_true rfl) (Nat.le_of_ble_eq_true rfl) (Nat.le_of_ble_eq_true rfl) (Nat.le_of_ble_eq_true rfl) (Nat.le_of_ble_eq_true rfl) (fun h11976 => ?_)
              refine r_icmp_eq (tgt := 1692) C h11973 h11976 dL_law_381 (by decide) (fun c11977 => ?_) (fun c11977 => ?_)
              · refine r_bt c11977 ?_
                refine r_iinc (j := 3) (L' := [(3, .int (zi (wr (s11913.1 + 6)))), (0, .ref b), (1, .ref (zad E 0)), (2, .ref (zad E 262))]) C dL_law_1692 rfl (by decide) rfl ?_
                refine r_goto (tgt := 18) C dL_law_1695 (by decide) ?_
                refine r_L (L' := [(0, .ref b), (1, .ref (zad E 0)), (2, .ref (zad E 262)), (3, .int (zi (wr (s11913.1 + 6))))]) [1, 2, 3, 0] rfl ?_
                exact k11916 (wr (s11913.1 + 6), s11913.2.1, s11913.2.2) (IR_wr _)
              · refine r_bf c11977 ?_
                exact fun e => by cases e
            · refine r_bf c11970 ?_
              by_cases c11978 : (zand v11920 63 = 4)
              · refine r_bt c11978 ?_
                refine r_tswIn (kx := 4) (tgt := 386) C (i32_IR _) dL_law_33 c11978 (by decide) (by decide) rfl (by decide) ?_
                refine r_aload_n (pc := 386) (j := 1) C dL_law_386 rfl rfl ?_
                refine r_aload_n (pc := 387) (j := 0) C dL_law_387 rfl rfl ?_
                refine r_iload_n (pc := 388) (j := 3) C dL_law_388 rfl rfl ?_
                refine r_iconst (v := 1) C dL_law_389 (by decide) ?_
                refine r_iadd C dL_law_390 ?_
                refine r_bb ?_
                refine r_sld C hX (IR_wr _) dL_law_391 (fun v11979 h11980 => ?_)
                refine r_aload_n (pc := 392) (j := 0) C dL_law_392 rfl rfl ?_
                refine r_iload_n (pc := 393) (j := 3) C dL_law_393 rfl rfl ?_
                refine r_iconst (v := 2) C dL_law_394 (by decide) ?_
                refine r_iadd C dL_law_395 ?_
                refine r_bb ?_
                refine r_sld C hX (IR_wr _) dL_law_396 (fun v11981 h11982 => ?_)
                refine r_cV1 (pc := 397) (k := 0) (As := [.int (zi v11979), .int (zi v11981)]) (st := []) C (m_X11_segment (a1 := v11979) (a2 := v11981) h11980 h11982 rfl) cal_X11_segment cl_X11 kd_0 ln_0 q_1031 dL_law_397 rfl rfl (Nat.le_of_ble_eq_true rfl) (Nat.le_of_ble_eq_true rfl) (Nat.le_of_ble_eq_true rfl) (Nat.le_of_ble_eq_true rfl) (Nat.le_of_ble_eq_true rfl) (fun h11983 => ?_)
                refine r_aload_n (pc := 400) (j := 2) C dL_law_400 rfl rfl ?_
                refine r_aload_n (pc := 401) (j := 0) C dL_law_401 rfl rfl ?_
                refine r_iload_n (pc := 402) (j := 3) C dL_law_402 rfl rfl ?_
                refine r_iconst (v := 1) C dL_law_403 (by decide) ?_
                refine r_iadd C dL_law_404 ?_
                refine r_bb ?_
                refine r_sld C hX (IR_wr _) dL_law_405 (fun v11984 h11985 => ?_)
                refine r_aload_n (pc := 406) (j := 0) C dL_law_406 rfl rfl ?_
                refine r_iload_n (pc := 407) (j := 3) C dL_law_407 rfl rfl ?_
                refine r_iconst (v := 2) C dL_law_408 (by decide) ?_
                refine r_iadd C dL_law_409 ?_
                refine r_bb ?_
                refine r_sld C hX (IR_wr _) dL_law_410 (fun v11986 h11987 => ?_)
                refine r_bb ?_
                refine r_bd (fun q11989 e11990 => ?_)
                refine r_cV1 (pc := 411) (k := 262) (As := [.int (zi v11984), .int (zi v11986)]) (st := [.int (zi (f_X11_segment v11979 v11981 s11913.2.1))]) C (m_X12_segment (a1 := v11984) (a2 := v11986) h11985 h11987 e11990) cal_X12_segment cl_X12 kd_262 ln_262 q_2106 dL_law_411 rfl rfl (Nat.le_of_ble_eq_true rfl) (Nat.le_of_ble_eq_true rfl) (Nat.le_of_ble_eq_true rfl) (Nat.le_of_ble_eq_true rfl) (Nat.le_of_ble_eq_true rfl) (fun h11988 => ?_)
                refine r_icmp_eq (tgt := 1692) C h11983 h11988 dL_law_414 (by decide) (fun c11991 => ?_) (fun c11991 => ?_)
                · refine r_bt c11991 ?_
                  refine r_iinc (j := 3) (L' := [(3, .int (zi (wr (s11913.1 + 6)))), (0, .ref b), (1, .ref (zad E 0)), (2, .ref (zad E 262))]) C dL_law_1692 rfl (by decide) rfl ?_
                  refine r_goto (tgt := 18) C dL_law_1695 (by decide) ?_
                  refine r_L (L' := [(0, .ref b), (1, .ref (zad E 0)), (2, .ref (zad E 262)), (3, .int (zi (wr (s11913.1 + 6))))]) [1, 2, 3, 0] rfl ?_
                  exact k11916 (wr (s11913.1 + 6), s11913.2.1, s11913.2.2) (IR_wr _)
                · refine r_bf c11991 ?_
                  exact fun e => by cases e
              · refine r_bf c11978 ?_
                by_cases c11992 : (zand v11920 63 = 5)
                · refine r_bt c11992 ?_
                  refine r_tswIn (kx := 5) (tgt := 419) C (i32_IR _) dL_law_33 c11992 (by decide) (by decide) rfl (by decide) ?_
                  refine r_aload_n (pc := 419) (j := 1) C dL_law_419 rfl rfl ?_
                  refine r_aload_n (pc := 420) (j := 0) C dL_law_420 rfl rfl ?_
                  refine r_iload_n (pc := 421) (j := 3) C dL_law_421 rfl rfl ?_
                  refine r_iconst (v := 1) C dL_law_422 (by decide) ?_
                  refine r_iadd C dL_law_423 ?_
                  refine r_bb ?_
                  refine r_sld C hX (IR_wr _) dL_law_424 (fun v11993 h11994 => ?_)
                  refine r_cV1 (pc := 425) (k := 0) (As := [.int (zi v11993)]) (st := []) C (m_X11_weight (a1 := v11993) h11994 rfl) cal_X11_weight cl_X11 kd_0 ln_0 q_1047 dL_law_425 rfl rfl (Nat.le_of_ble_eq_true rfl) (Nat.le_of_ble_eq_true rfl) (Nat.le_of_ble_eq_true rfl) (Nat.le_of_ble_eq_true rfl) (Nat.le_of_ble_eq_true rfl) (fun h11995 => ?_)
                  refine r_aload_n (pc := 428) (j := 2) C dL_law_428 rfl rfl ?_
                  refine r_aload_n (pc := 429) (j := 0) C dL_law_429 rfl rfl ?_
                  refine r_iload_n (pc := 430) (j := 3) C dL_law_430 rfl rfl ?_
                  refine r_iconst (v := 1) C dL_law_431 (by decide) ?_
                  refine r_iadd C dL_law_432 ?_
                  refine r_bb ?_
                  refine r_sld C hX (IR_wr _) dL_law_433 (fun v11996 h11997 => ?_)
                  refine r_bb ?_
                  refine r_bd (fun q11999 e12000 => ?_)
                  refine r_cV1 (pc := 434) (k := 262) (As := [.int (zi v11996)]) (st := [.int (zi (f_X11_weight v11993 s11913.2.1))]) C (m_X12_weight (a1 := v11996) h11997 e12000) cal_X12_weight cl_X12 kd_262 ln_262 q_1996 dL_law_434 rfl rfl (Nat.le_of_ble_eq_true rfl) (Nat.le_of_ble_eq_true rfl) (Nat.le_of_ble_eq_true rfl) (Nat.le_of_ble_eq_true rfl) (Nat.le_of_ble_eq_true rfl) (fun h11998 => ?_)
                  refine r_icmp_eq (tgt := 1692) C h11995 h11998 dL_law_437 (by decide) (fun c12001 => ?_) (fun c12001 => ?_)
                  · refine r_bt c12001 ?_
                    refine r_iinc (j := 3) (L' := [(3, .int (zi (wr (s11913.1 + 6)))), (0, .ref b), (1, .ref (zad E 0)), (2, .ref (zad E 262))]) C dL_law_1692 rfl (by decide) rfl ?_
                    refine r_goto (tgt := 18) C dL_law_1695 (by decide) ?_
                    refine r_L (L' := [(0, .ref b), (1, .ref (zad E 0)), (2, .ref (zad E 262)), (3, .int (zi (wr (s11913.1 + 6))))]) [1, 2, 3, 0] rfl ?_
                    exact k11916 (wr (s11913.1 + 6), s11913.2.1, s11913.2.2) (IR_wr _)
                  · refine r_bf c12001 ?_
                    exact fun e => by cases e
                · refine r_bf c11992 ?_
                  by_cases c12002 : (zand v11920 63 = 6)
                  · refine r_bt c12002 ?_
                    refine r_tswIn (kx := 6) (tgt := 442) C (i32_IR _) dL_law_33 c12002 (by decide) (by decide) rfl (by decide) ?_
                    refine r_aload_n (pc := 442) (j := 1) C dL_law_442 rfl rfl ?_
                    refine r_aload_n (pc := 443) (j := 0) C dL_law_443 rfl rfl ?_
                    refine r_iload_n (pc := 444) (j := 3) C dL_law_444 rfl rfl ?_
                    refine r_iconst (v := 1) C dL_law_445 (by decide) ?_
                    refine r_iadd C dL_law_446 ?_
                    refine r_bb ?_
                    refine r_sld C hX (IR_wr _) dL_law_447 (fun v12003 h12004 => ?_)
                    refine r_aload_n (pc := 448) (j := 0) C dL_law_448 rfl rfl ?_
                    refine r_iload_n (pc := 449) (j := 3) C dL_law_449 rfl rfl ?_
                    refine r_iconst (v := 2) C dL_law_450 (by decide) ?_
                    refine r_iadd C dL_law_451 ?_
                    refine r_bb ?_
                    refine r_sld C hX (IR_wr _) dL_law_452 (fun v12005 h12006 => ?_)
                    refine r_aload_n (pc := 453) (j := 0) C dL_law_453 rfl rfl ?_
                    refine r_iload_n (pc := 454) (j := 3) C dL_law_454 rfl rfl ?_
                    refine r_iconst (v := 3) C dL_law_455 (by decide) ?_
                    refine r_iadd C dL_law_456 ?_
                    refine r_bb ?_
                    refine r_sld C hX (IR_wr _) dL_law_457 (fun v12007 h12008 => ?_)
                    refine r_cV1 (pc := 458) (k := 0) (As := [.int (zi v12003), .int (zi v12005), .int (zi v12007)]) (st := []) C (m_X11_higher (a1 := v12003) (a2 := v12005) (a3 := v12007) h12004 h12006 h12008 rfl) cal_X11_higher cl_X11 kd_0 ln_0 q_1051 dL_law_458 rfl rfl (Nat.le_of_ble_eq_true rfl) (Nat.le_of_ble_eq_true rfl) (Nat.le_of_ble_eq_true rfl) (Nat.le_of_ble_eq_true rfl) (Nat.le_of_ble_eq_true rfl) (fun h12009 => ?_)
                    refine r_aload_n (pc := 461) (j := 2) C dL_law_461 rfl rfl ?_
                    refine r_aload_n (pc := 462) (j := 0) C dL_law_462 rfl rfl ?_
                    refine r_iload_n (pc := 463) (j := 3) C dL_law_463 rfl rfl ?_
                    refine r_iconst (v := 1) C dL_law_464 (by decide) ?_
                    refine r_iadd C dL_law_465 ?_
                    refine r_bb ?_
                    refine r_sld C hX (IR_wr _) dL_law_466 (fun v12010 h12011 => ?_)
                    refine r_aload_n (pc := 467) (j := 0) C dL_law_467 rfl rfl ?_
                    refine r_iload_n (pc := 468) (j := 3) C dL_law_468 rfl rfl ?_
                    refine r_iconst (v := 2) C dL_law_469 (by decide) ?_
                    refine r_iadd C dL_law_470 ?_
                    refine r_bb ?_
                    refine r_sld C hX (IR_wr _) dL_law_471 (fun v12012 h12013 => ?_)
                    refine r_aload_n (pc := 472) (j := 0) C dL_law_472 rfl rfl ?_
                    refine r_iload_n (pc := 473) (j := 3) C dL_law_473 rfl rfl ?_
                    refine r_iconst (v := 3) C dL_law_474 (by decide) ?_
                    refine r_iadd C dL_law_475 ?_
                    refine r_bb ?_
                    refine r_sld C hX (IR_wr _) dL_law_476 (fun v12014 h12015 => ?_)
                    refine r_bb ?_
                    refine r_bd (fun q12017 e12018 => ?_)
                    refine r_cV1 (pc := 477) (k := 262) (As := [.int (zi v12010), .int (zi v12012), .int (zi v12014)]) (st := [.int (zi (f_X11_higher v12003 v12005 v12007 s11913.2.1))]) C (m_X12_higher (a1 := v12010) (a2 := v12012) (a3 := v12014) h12011 h12013 h12015 e12018) cal_X12_higher cl_X12 kd_262 ln_262 q_1973 dL_law_477 rfl rfl (Nat.le_of_ble_eq_true rfl) (Nat.le_of_ble_eq_true rfl) (Nat.le_of_ble_eq_true rfl) (Nat.le_of_ble_eq_true rfl) (Nat.le_of_ble_eq_true rfl) (fun h12016 => ?_)
                    refine r_icmp_eq (tgt := 1692) C h12009 h12016 dL_law_480 (by decide) (fun c12019 => ?_) (fun c12019 => ?_)
                    · refine r_bt c12019 ?_
                      refine r_iinc (j := 3) (L' := [(3, .int (zi (wr (s11913.1 + 6)))), (0, .ref b), (1, .ref (zad E 0)), (2, .ref (zad E 262))]) C dL_law_1692 rfl (by decide) rfl ?_
                      refine r_goto (tgt := 18) C dL_law_1695 (by decide) ?_
                      refine r_L (L' := [(0, .ref b), (1, .ref (zad E 0)), (2, .ref (zad E 262)), (3, .int (zi (wr (s11913.1 + 6))))]) [1, 2, 3, 0] rfl ?_
                      exact k11916 (wr (s11913.1 + 6), s11913.2.1, s11913.2.2) (IR_wr _)
                    · refine r_bf c12019 ?_
                      exact fun e => by cases e
                  · refine r_bf c12002 ?_
                    by_cases c12020 : (zand v11920 63 = 7)
                    · refine r_bt c12020 ?_
                      refine r_tswIn (kx := 7) (tgt := 485) C (i32_IR _) dL_law_33 c12020 (by decide) (by decide) rfl (by decide) ?_
                      refine r_aload_n (pc := 485) (j := 1) C dL_law_485 rfl rfl ?_
                      refine r_bb ?_
                      refine r_bd (fun q12022 e12023 => ?_)
                      refine r_cV1 (pc := 486) (k := 0) (As := []) (st := []) C (m_X11_sweep  e12023) cal_X11_sweep cl_X11 kd_0 ln_0 q_1074 dL_law_486 rfl rfl (Nat.le_of_ble_eq_true rfl) (Nat.le_of_ble_eq_true rfl) (Nat.le_of_ble_eq_true rfl) (Nat.le_of_ble_eq_true rfl) (Nat.le_of_ble_eq_true rfl) (fun h12021 => ?_)
                      refine r_aload_n (pc := 489) (j := 2) C dL_law_489 rfl rfl ?_
                      refine r_bb ?_
                      refine r_bd (fun q12025 e12026 => ?_)
                      refine r_cV1 (pc := 490) (k := 262) (As := []) (st := [.int (zi q12022.1)]) C (m_X12_sweep  e12026) cal_X12_sweep cl_X12 kd_262 ln_262 q_2000 dL_law_490 rfl rfl (Nat.le_of_ble_eq_true rfl) (Nat.le_of_ble_eq_true rfl) (Nat.le_of_ble_eq_true rfl) (Nat.le_of_ble_eq_true rfl) (Nat.le_of_ble_eq_true rfl) (fun h12024 => ?_)
                      refine r_icmp_eq (tgt := 1692) C h12021 h12024 dL_law_493 (by decide) (fun c12027 => ?_) (fun c12027 => ?_)
                      · refine r_bt c12027 ?_
                        refine r_iinc (j := 3) (L' := [(3, .int (zi (wr (s11913.1 + 6)))), (0, .ref b), (1, .ref (zad E 0)), (2, .ref (zad E 262))]) C dL_law_1692 rfl (by decide) rfl ?_
                        refine r_goto (tgt := 18) C dL_law_1695 (by decide) ?_
                        refine r_L (L' := [(0, .ref b), (1, .ref (zad E 0)), (2, .ref (zad E 262)), (3, .int (zi (wr (s11913.1 + 6))))]) [1, 2, 3, 0] rfl ?_
                        exact k11916 (wr (s11913.1 + 6), q12022.2, q12025.2) (IR_wr _)
                      · refine r_bf c12027 ?_
                        exact fun e => by cases e
                    · refine r_bf c12020 ?_
                      by_cases c12028 : (zand v11920 63 = 8)
                      · refine r_bt c12028 ?_
                        refine r_tswIn (kx := 8) (tgt := 498) C (i32_IR _) dL_law_33 c12028 (by decide) (by decide) rfl (by decide) ?_
                        refine r_aload_n (pc := 498) (j := 1) C dL_law_498 rfl rfl ?_
                        refine r_aload_n (pc := 499) (j := 0) C dL_law_499 rfl rfl ?_
                        refine r_iload_n (pc := 500) (j := 3) C dL_law_500 rfl rfl ?_
                        refine r_iconst (v := 1) C dL_law_501 (by decide) ?_
                        refine r_iadd C dL_law_502 ?_
                        refine r_bb ?_
                        refine r_sld C hX (IR_wr _) dL_law_503 (fun v12029 h12030 => ?_)
                        refine r_bb ?_
                        refine r_bd (fun q12032 e12033 => ?_)
                        refine r_cV1 (pc := 504) (k := 0) (As := [.int (zi v12029)]) (st := []) C (m_X11_cut (a1 := v12029) h12030 e12033) cal_X11_cut cl_X11 kd_0 ln_0 q_1173 dL_law_504 rfl rfl (Nat.le_of_ble_eq_true rfl) (Nat.le_of_ble_eq_true rfl) (Nat.le_of_ble_eq_true rfl) (Nat.le_of_ble_eq_true rfl) (Nat.le_of_ble_eq_true rfl) (fun h12031 => ?_)
                        refine r_aload_n (pc := 507) (j := 2) C dL_law_507 rfl rfl ?_
                        refine r_aload_n (pc := 508) (j := 0) C dL_law_508 rfl rfl ?_
                        refine r_iload_n (pc := 509) (j := 3) C dL_law_509 rfl rfl ?_
                        refine r_iconst (v := 1) C dL_law_510 (by decide) ?_
                        refine r_iadd C dL_law_511 ?_
                        refine r_bb ?_
                        refine r_sld C hX (IR_wr _) dL_law_512 (fun v12034 h12035 => ?_)
                        refine r_bb ?_
                        refine r_bd (fun q12037 e12038 => ?_)
                        refine r_cV1 (pc := 513) (k := 262) (As := [.int (zi v12034)]) (st := [.int (zi q12032.1)]) C (m_X12_cut (a1 := v12034) h12035 e12038) cal_X12_cut cl_X12 kd_262 ln_262 q_2086 dL_law_513 rfl rfl (Nat.le_of_ble_eq_true rfl) (Nat.le_of_ble_eq_true rfl) (Nat.le_of_ble_eq_true rfl) (Nat.le_of_ble_eq_true rfl) (Nat.le_of_ble_eq_true rfl) (fun h12036 => ?_)
                        refine r_icmp_eq (tgt := 1692) C h12031 h12036 dL_law_516 (by decide) (fun c12039 => ?_) (fun c12039 => ?_)
                        · refine r_bt c12039 ?_
                          refine r_iinc (j := 3) (L' := [(3, .int (zi (wr (s11913.1 + 6)))), (0, .ref b), (1, .ref (zad E 0)), (2, .ref (zad E 262))]) C dL_law_1692 rfl (by decide) rfl ?_
                          refine r_goto (tgt := 18) C dL_law_1695 (by decide) ?_
                          refine r_L (L' := [(0, .ref b), (1, .ref (zad E 0)), (2, .ref (zad E 262)), (3, .int (zi (wr (s11913.1 + 6))))]) [1, 2, 3, 0] rfl ?_
                          exact k11916 (wr (s11913.1 + 6), q12032.2, q12037.2) (IR_wr _)
                        · refine r_bf c12039 ?_
                          exact fun e => by cases e
                      · refine r_bf c12028 ?_
                        by_cases c12040 : (zand v11920 63 = 9)
                        · refine r_bt c12040 ?_
                          refine r_tswIn (kx := 9) (tgt := 521) C (i32_IR _) dL_law_33 c12040 (by decide) (by decide) rfl (by decide) ?_
                          refine r_aload_n (pc := 521) (j := 1) C dL_law_521 rfl rfl ?_
                          refine r_aload_n (pc := 522) (j := 0) C dL_law_522 rfl rfl ?_
                          refine r_iload_n (pc := 523) (j := 3) C dL_law_523 rfl rfl ?_
                          refine r_iconst (v := 1) C dL_law_524 (by decide) ?_
                          refine r_iadd C dL_law_525 ?_
                          refine r_bb ?_
                          refine r_sld C hX (IR_wr _) dL_law_526 (fun v12041 h12042 => ?_)
                          refine r_bb ?_
                          refine r_bd (fun q12044 e12045 => ?_)
                          refine r_cV1 (pc := 527) (k := 0) (As := [.int (zi v12041)]) (st := []) C (m_X11_raise (a1 := v12041) h12042 e12045) cal_X11_raise cl_X11 kd_0 ln_0 q_1183 dL_law_527 rfl rfl (Nat.le_of_ble_eq_true rfl) (Nat.le_of_ble_eq_true rfl) (Nat.le_of_ble_eq_true rfl) (Nat.le_of_ble_eq_true rfl) (Nat.le_of_ble_eq_true rfl) (fun h12043 => ?_)
                          refine r_aload_n (pc := 530) (j := 2) C dL_law_530 rfl rfl ?_
                          refine r_aload_n (pc := 531) (j := 0) C dL_law_531 rfl rfl ?_
                          refine r_iload_n (pc := 532) (j := 3) C dL_law_532 rfl rfl ?_
                          refine r_iconst (v := 1) C dL_law_533 (by decide) ?_
                          refine r_iadd C dL_law_534 ?_
                          refine r_bb ?_
                          refine r_sld C hX (IR_wr _) dL_law_535 (fun v12046 h12047 => ?_)
                          refine r_bb ?_
                          refine r_bd (fun q12049 e12050 => ?_)
                          refine r_cV1 (pc := 536) (k := 262) (As := [.int (zi v12046)]) (st := [.int (zi q12044.1)]) C (m_X12_raise (a1 := v12046) h12047 e12050) cal_X12_raise cl_X12 kd_262 ln_262 q_2094 dL_law_536 rfl rfl (Nat.le_of_ble_eq_true rfl) (Nat.le_of_ble_eq_true rfl) (Nat.le_of_ble_eq_true rfl) (Nat.le_of_ble_eq_true rfl) (Nat.le_of_ble_eq_true rfl) (fun h12048 => ?_)
                          refine r_icmp_eq (tgt := 1692) C h12043 h12048 dL_law_539 (by decide) (fun c12051 => ?_) (fun c12051 => ?_)
                          · refine r_bt c12051 ?_
                            refine r_iinc (j := 3) (L' := [(3, .int (zi (wr (s11913.1 + 6)))), (0, .ref b), (1, .ref (zad E 0)), (2, .ref (zad E 262))]) C dL_law_1692 rfl (by decide) rfl ?_
                            refine r_goto (tgt := 18) C dL_law_1695 (by decide) ?_
                            refine r_L (L' := [(0, .ref b), (1, .ref (zad E 0)), (2, .ref (zad E 262)), (3, .int (zi (wr (s11913.1 + 6))))]) [1, 2, 3, 0] rfl ?_
                            exact k11916 (wr (s11913.1 + 6), q12044.2, q12049.2) (IR_wr _)
                          · refine r_bf c12051 ?_
                            exact fun e => by cases e
                        · refine r_bf c12040 ?_
                          by_cases c12052 : (zand v11920 63 = 10)
                          · refine r_bt c12052 ?_
                            refine r_tswIn (kx := 10) (tgt := 544) C (i32_IR _) dL_law_33 c12052 (by decide) (by decide) rfl (by decide) ?_
                            refine r_aload_n (pc := 544) (j := 1) C dL_law_544 rfl rfl ?_
                            refine r_bb ?_
                            refine r_bd (fun q12054 e12055 => ?_)
                            refine r_cV1 (pc := 545) (k := 0) (As := []) (st := []) C (m_X11_undo  e12055) cal_X11_undo cl_X11 kd_0 ln_0 q_1192 dL_law_545 rfl rfl (Nat.le_of_ble_eq_true rfl) (Nat.le_of_ble_eq_true rfl) (Nat.le_of_ble_eq_true rfl) (Nat.le_of_ble_eq_true rfl) (Nat.le_of_ble_eq_true rfl) (fun h12053 => ?_)
                            refine r_aload_n (pc := 548) (j := 2) C dL_law_548 rfl rfl ?_
                            refine r_bj ?_
                            refine r_jn (fun q12057 e12058 => ?_)
                            refine r_cV1 (pc := 549) (k := 262) (As := []) (st := [.int (zi q12054.1)]) C (m_X12_undo  e12058) cal_X12_undo cl_X12 kd_262 ln_262 q_2098 dL_law_549 rfl rfl (Nat.le_of_ble_eq_true rfl) (Nat.le_of_ble_eq_true rfl) (Nat.le_of_ble_eq_true rfl) (Nat.le_of_ble_eq_true rfl) (Nat.le_of_ble_eq_true rfl) (fun h12056 => ?_)
                            refine r_icmp_eq (tgt := 1692) C h12053.ir h12056.ir dL_law_552 (by decide) (fun c12059 => ?_) (fun c12059 => ?_)
                            · refine r_bt c12059 ?_
                              refine r_iinc (j := 3) (L' := [(3, .int (zi (wr (s11913.1 + 6)))), (0, .ref b), (1, .ref (zad E 0)), (2, .ref (zad E 262))]) C dL_law_1692 rfl (by decide) rfl ?_
                              refine r_goto (tgt := 18) C dL_law_1695 (by decide) ?_
                              refine r_L (L' := [(0, .ref b), (1, .ref (zad E 0)), (2, .ref (zad E 262)), (3, .int (zi (wr (s11913.1 + 6))))]) [1, 2, 3, 0] rfl ?_
                              exact k11916 (wr (s11913.1 + 6), q12054.2, q12057.2) (IR_wr _)
                            · refine r_bf c12059 ?_
                              exact fun e => by cases e
                          · refine r_bf c12052 ?_
                            by_cases c12060 : (zand v11920 63 = 11)
                            · refine r_bt c12060 ?_
                              refine r_tswIn (kx := 11) (tgt := 557) C (i32_IR _) dL_law_33 c12060 (by decide) (by decide) rfl (by decide) ?_
                              refine r_aload_n (pc := 557) (j := 1) C dL_law_557 rfl rfl ?_
                              refine r_bb ?_
                              refine r_bd (fun q12062 e12063 => ?_)
                              refine r_cV1 (pc := 558) (k := 0) (As := []) (st := []) C (m_X11_redo  e12063) cal_X11_redo cl_X11 kd_0 ln_0 q_1212 dL_law_558 rfl rfl (Nat.le_of_ble_eq_true rfl) (Nat.le_of_ble_eq_true rfl) (Nat.le_of_ble_eq_true rfl) (Nat.le_of_ble_eq_true rfl) (Nat.le_of_ble_eq_true rfl) (fun h12061 => ?_)
                              refine r_aload_n (pc := 561) (j := 2) C dL_law_561 rfl rfl ?_
                              refine r_bj ?_
                              refine r_jn (fun q12065 e12066 => ?_)
                              refine r_cV1 (pc := 562) (k := 262) (As := []) (st := [.int (zi q12062.1)]) C (m_X12_redo  e12066) cal_X12_redo cl_X12 kd_262 ln_262 q_2102 dL_law_562 rfl rfl (Nat.le_of_ble_eq_true rfl) (Nat.le_of_ble_eq_true rfl) (Nat.le_of_ble_eq_true rfl) (Nat.le_of_ble_eq_true rfl) (Nat.le_of_ble_eq_true rfl) (fun h12064 => ?_)
                              refine r_icmp_eq (tgt := 1692) C h12061.ir h12064.ir dL_law_565 (by decide) (fun c12067 => ?_) (fun c12067 => ?_)
                              · refine r_bt c12067 ?_
                                refine r_iinc (j := 3) (L' := [(3, .int (zi (wr (s11913.1 + 6)))), (0, .ref b), (1, .ref (zad E 0)), (2, .ref (zad E 262))]) C dL_law_1692 rfl (by decide) rfl ?_
                                refine r_goto (tgt := 18) C dL_law_1695 (by decide) ?_
                                refine r_L (L' := [(0, .ref b), (1, .ref (zad E 0)), (2, .ref (zad E 262)), (3, .int (zi (wr (s11913.1 + 6))))]) [1, 2, 3, 0] rfl ?_
                                exact k11916 (wr (s11913.1 + 6), q12062.2, q12065.2) (IR_wr _)
                              · refine r_bf c12067 ?_
                                exact fun e => by cases e
                            · refine r_bf c12060 ?_
                              by_cases c12068 : (zand v11920 63 = 12)
                              · refine r_bt c12068 ?_
                                refine r_tswIn (kx := 12) (tgt := 570) C (i32_IR _) dL_law_33 c12068 (by decide) (by decide) rfl (by decide) ?_
                                refine r_aload_n (pc := 570) (j := 1) C dL_law_570 rfl rfl ?_
                                refine r_aload_n (pc := 571) (j := 0) C dL_law_571 rfl rfl ?_
                                refine r_iload_n (pc := 572) (j := 3) C dL_law_572 rfl rfl ?_
                                refine r_iconst (v := 1) C dL_law_573 (by decide) ?_
                                refine r_iadd C dL_law_574 ?_
                                refine r_bb ?_
                                refine r_sld C hX (IR_wr _) dL_law_575 (fun v12069 h12070 => ?_)
                                refine r_aload_n (pc := 576) (j := 0) C dL_law_576 rfl rfl ?_
                                refine r_iload_n (pc := 577) (j := 3) C dL_law_577 rfl rfl ?_
                                refine r_iconst (v := 2) C dL_law_578 (by decide) ?_
                                refine r_iadd C dL_law_579 ?_
                                refine r_bb ?_
                                refine r_sld C hX (IR_wr _) dL_law_580 (fun v12071 h12072 => ?_)
                                refine r_bb ?_
                                refine r_bd (fun q12074 e12075 => ?_)
                                refine r_cV1 (pc := 581) (k := 0) (As := [.int (zi v12069), .int (zi v12071)]) (st := []) C (m_X11_version (a1 := v12069) (a2 := v12071) h12070 h12072 e12075) cal_X11_version cl_X11 kd_0 ln_0 q_1237 dL_law_581 rfl rfl (Nat.le_of_ble_eq_true rfl) (Nat.le_of_ble_eq_true rfl) (Nat.le_of_ble_eq_true rfl) (Nat.le_of_ble_eq_true rfl) (Nat.le_of_ble_eq_true rfl) (fun h12073 => ?_)
                                refine r_aload_n (pc := 584) (j := 2) C dL_law_584 rfl rfl ?_
                                refine r_aload_n (pc := 585) (j := 0) C dL_law_585 rfl rfl ?_
                                refine r_iload_n (pc := 586) (j := 3) C dL_law_586 rfl rfl ?_
                                refine r_iconst (v := 1) C dL_law_587 (by decide) ?_
                                refine r_iadd C dL_law_588 ?_
                                refine r_bb ?_
                                refine r_sld C hX (IR_wr _) dL_law_589 (fun v12076 h12077 => ?_)
                                refine r_aload_n (pc := 590) (j := 0) C dL_law_590 rfl rfl ?_
                                refine r_iload_n (pc := 591) (j := 3) C dL_law_591 rfl rfl ?_
                                refine r_iconst (v := 2) C dL_law_592 (by decide) ?_
                                refine r_iadd C dL_law_593 ?_
                                refine r_bb ?_
                                refine r_sld C hX (IR_wr _) dL_law_594 (fun v12078 h12079 => ?_)
                                refine r_bb ?_
                                refine r_bd (fun q12081 e12082 => ?_)
                                refine r_cV1 (pc := 595) (k := 262) (As := [.int (zi v12076), .int (zi v12078)]) (st := [.int (zi q12074.1)]) C (m_X12_version (a1 := v12076) (a2 := v12078) h12077 h12079 e12082) cal_X12_version cl_X12 kd_262 ln_262 q_2110 dL_law_595 rfl rfl (Nat.le_of_ble_eq_true rfl) (Nat.le_of_ble_eq_true rfl) (Nat.le_of_ble_eq_true rfl) (Nat.le_of_ble_eq_true rfl) (Nat.le_of_ble_eq_true rfl) (fun h12080 => ?_)
                                refine r_icmp_eq (tgt := 1692) C h12073 h12080 dL_law_598 (by decide) (fun c12083 => ?_) (fun c12083 => ?_)
                                · refine r_bt c12083 ?_
                                  refine r_iinc (j := 3) (L' := [(3, .int (zi (wr (s11913.1 + 6)))), (0, .ref b), (1, .ref (zad E 0)), (2, .ref (zad E 262))]) C dL_law_1692 rfl (by decide) rfl ?_
                                  refine r_goto (tgt := 18) C dL_law_1695 (by decide) ?_
                                  refine r_L (L' := [(0, .ref b), (1, .ref (zad E 0)), (2, .ref (zad E 262)), (3, .int (zi (wr (s11913.1 + 6))))]) [1, 2, 3, 0] rfl ?_
                                  exact k11916 (wr (s11913.1 + 6), q12074.2, q12081.2) (IR_wr _)
                                · refine r_bf c12083 ?_
                                  exact fun e => by cases e
                              · refine r_bf c12068 ?_
                                by_cases c12084 : (zand v11920 63 = 13)
                                · refine r_bt c12084 ?_
                                  refine r_tswIn (kx := 13) (tgt := 603) C (i32_IR _) dL_law_33 c12084 (by decide) (by decide) rfl (by decide) ?_
                                  refine r_aload_n (pc := 603) (j := 1) C dL_law_603 rfl rfl ?_
                                  refine r_aload_n (pc := 604) (j := 0) C dL_law_604 rfl rfl ?_
                                  refine r_iload_n (pc := 605) (j := 3) C dL_law_605 rfl rfl ?_
                                  refine r_iconst (v := 1) C dL_law_606 (by decide) ?_
                                  refine r_iadd C dL_law_607 ?_
                                  refine r_bb ?_
                                  refine r_sld C hX (IR_wr _) dL_law_608 (fun v12085 h12086 => ?_)
                                  refine r_aload_n (pc := 609) (j := 0) C dL_law_609 rfl rfl ?_
                                  refine r_iload_n (pc := 610) (j := 3) C dL_law_610 rfl rfl ?_
                                  refine r_iconst (v := 2) C dL_law_611 (by decide) ?_
                                  refine r_iadd C dL_law_612 ?_
                                  refine r_bb ?_
                                  refine r_sld C hX (IR_wr _) dL_law_613 (fun v12087 h12088 => ?_)
                                  refine r_bb ?_
                                  refine r_bd (fun q12090 e12091 => ?_)
                                  refine r_cV1 (pc := 614) (k := 0) (As := [.int (zi v12085), .int (zi v12087)]) (st := []) C (m_X11_node (a1 := v12085) (a2 := v12087) h12086 h12088 e12091) cal_X11_node cl_X11 kd_0 ln_0 q_1250 dL_law_614 rfl rfl (Nat.le_of_ble_eq_true rfl) (Nat.le_of_ble_eq_true rfl) (Nat.le_of_ble_eq_true rfl) (Nat.le_of_ble_eq_true rfl) (Nat.le_of_ble_eq_true rfl) (fun h12089 => ?_)
                                  refine r_aload_n (pc := 617) (j := 2) C dL_law_617 rfl rfl ?_
                                  refine r_aload_n (pc := 618) (j := 0) C dL_law_618 rfl rfl ?_
                                  refine r_iload_n (pc := 619) (j := 3) C dL_law_619 rfl rfl ?_
                                  refine r_iconst (v := 1) C dL_law_620 (by decide) ?_
                                  refine r_iadd C dL_law_621 ?_
                                  refine r_bb ?_
                                  refine r_sld C hX (IR_wr _) dL_law_622 (fun v12092 h12093 => ?_)
                                  refine r_aload_n (pc := 623) (j := 0) C dL_law_623 rfl rfl ?_
                                  refine r_iload_n (pc := 624) (j := 3) C dL_law_624 rfl rfl ?_
                                  refine r_iconst (v := 2) C dL_law_625 (by decide) ?_
                                  refine r_iadd C dL_law_626 ?_
                                  refine r_bb ?_
                                  refine r_sld C hX (IR_wr _) dL_law_627 (fun v12094 h12095 => ?_)
                                  refine r_bb ?_
                                  refine r_bd (fun q12097 e12098 => ?_)
                                  refine r_cV1 (pc := 628) (k := 262) (As := [.int (zi v12092), .int (zi v12094)]) (st := [.int (zi q12090)]) C (m_X12_node (a1 := v12092) (a2 := v12094) h12093 h12095 e12098) cal_X12_node cl_X12 kd_262 ln_262 q_2130 dL_law_628 rfl rfl (Nat.le_of_ble_eq_true rfl) (Nat.le_of_ble_eq_true rfl) (Nat.le_of_ble_eq_true rfl) (Nat.le_of_ble_eq_true rfl) (Nat.le_of_ble_eq_true rfl) (fun h12096 => ?_)
                                  refine r_icmp_eq (tgt := 1692) C h12089 h12096 dL_law_631 (by decide) (fun c12099 => ?_) (fun c12099 => ?_)
                                  · refine r_bt c12099 ?_
                                    refine r_iinc (j := 3) (L' := [(3, .int (zi (wr (s11913.1 + 6)))), (0, .ref b), (1, .ref (zad E 0)), (2, .ref (zad E 262))]) C dL_law_1692 rfl (by decide) rfl ?_
                                    refine r_goto (tgt := 18) C dL_law_1695 (by decide) ?_
                                    refine r_L (L' := [(0, .ref b), (1, .ref (zad E 0)), (2, .ref (zad E 262)), (3, .int (zi (wr (s11913.1 + 6))))]) [1, 2, 3, 0] rfl ?_
                                    exact k11916 (wr (s11913.1 + 6), s11913.2.1, q12097.2) (IR_wr _)
                                  · refine r_bf c12099 ?_
                                    exact fun e => by cases e
                                · refine r_bf c12084 ?_
                                  by_cases c12100 : (zand v11920 63 = 14)
                                  · refine r_bt c12100 ?_
                                    refine r_tswIn (kx := 14) (tgt := 636) C (i32_IR _) dL_law_33 c12100 (by decide) (by decide) rfl (by decide) ?_
                                    refine r_aload_n (pc := 636) (j := 1) C dL_law_636 rfl rfl ?_
                                    refine r_aload_n (pc := 637) (j := 0) C dL_law_637 rfl rfl ?_
                                    refine r_iload_n (pc := 638) (j := 3) C dL_law_638 rfl rfl ?_
                                    refine r_iconst (v := 1) C dL_law_639 (by decide) ?_
                                    refine r_iadd C dL_law_640 ?_
                                    refine r_bb ?_
                                    refine r_sld C hX (IR_wr _) dL_law_641 (fun v12101 h12102 => ?_)
                                    refine r_aload_n (pc := 642) (j := 0) C dL_law_642 rfl rfl ?_
                                    refine r_iload_n (pc := 643) (j := 3) C dL_law_643 rfl rfl ?_
                                    refine r_iconst (v := 2) C dL_law_644 (by decide) ?_
                                    refine r_iadd C dL_law_645 ?_
                                    refine r_bb ?_
                                    refine r_sld C hX (IR_wr _) dL_law_646 (fun v12103 h12104 => ?_)
                                    refine r_aload_n (pc := 647) (j := 0) C dL_law_647 rfl rfl ?_
                                    refine r_iload_n (pc := 648) (j := 3) C dL_law_648 rfl rfl ?_
                                    refine r_iconst (v := 3) C dL_law_649 (by decide) ?_
                                    refine r_iadd C dL_law_650 ?_
                                    refine r_bb ?_
                                    refine r_sld C hX (IR_wr _) dL_law_651 (fun v12105 h12106 => ?_)
                                    refine r_cV1 (pc := 652) (k := 0) (As := [.int (zi v12101), .int (zi v12103), .int (zi v12105)]) (st := []) C (m_X11_change (a1 := v12101) (a2 := v12103) (a3 := v12105) h12102 h12104 h12106 rfl) cal_X11_change cl_X11 kd_0 ln_0 q_1267 dL_law_652 rfl rfl (Nat.le_of_ble_eq_true rfl) (Nat.le_of_ble_eq_true rfl) (Nat.le_of_ble_eq_true rfl) (Nat.le_of_ble_eq_true rfl) (Nat.le_of_ble_eq_true rfl) (fun h12107 => ?_)
                                    refine r_aload_n (pc := 655) (j := 2) C dL_law_655 rfl rfl ?_
                                    refine r_aload_n (pc := 656) (j := 0) C dL_law_656 rfl rfl ?_
                                    refine r_iload_n (pc := 657) (j := 3) C dL_law_657 rfl rfl ?_
                                    refine r_iconst (v := 1) C dL_law_658 (by decide) ?_
                                    refine r_iadd C dL_law_659 ?_
                                    refine r_bb ?_
                                    refine r_sld C hX (IR_wr _) dL_law_660 (fun v12108 h12109 => ?_)
                                    refine r_aload_n (pc := 661) (j := 0) C dL_law_661 rfl rfl ?_
                                    refine r_iload_n (pc := 662) (j := 3) C dL_law_662 rfl rfl ?_
                                    refine r_iconst (v := 2) C dL_law_663 (by decide) ?_
                                    refine r_iadd C dL_law_664 ?_
                                    refine r_bb ?_
                                    refine r_sld C hX (IR_wr _) dL_law_665 (fun v12110 h12111 => ?_)
                                    refine r_aload_n (pc := 666) (j := 0) C dL_law_666 rfl rfl ?_
                                    refine r_iload_n (pc := 667) (j := 3) C dL_law_667 rfl rfl ?_
                                    refine r_iconst (v := 3) C dL_law_668 (by decide) ?_
                                    refine r_iadd C dL_law_669 ?_
                                    refine r_bb ?_
                                    refine r_sld C hX (IR_wr _) dL_law_670 (fun v12112 h12113 => ?_)
                                    refine r_bb ?_
                                    refine r_bd (fun q12115 e12116 => ?_)
                                    refine r_cV1 (pc := 671) (k := 262) (As := [.int (zi v12108), .int (zi v12110), .int (zi v12112)]) (st := [.int (zi (f_X11_change v12101 v12103 v12105 s11913.2.1))]) C (m_X12_change (a1 := v12108) (a2 := v12110) (a3 := v12112) h12109 h12111 h12113 e12116) cal_X12_change cl_X12 kd_262 ln_262 q_2146 dL_law_671 rfl rfl (Nat.le_of_ble_eq_true rfl) (Nat.le_of_ble_eq_true rfl) (Nat.le_of_ble_eq_true rfl) (Nat.le_of_ble_eq_true rfl) (Nat.le_of_ble_eq_true rfl) (fun h12114 => ?_)
                                    refine r_icmp_eq (tgt := 1692) C h12107 h12114 dL_law_674 (by decide) (fun c12117 => ?_) (fun c12117 => ?_)
                                    · refine r_bt c12117 ?_
                                      refine r_iinc (j := 3) (L' := [(3, .int (zi (wr (s11913.1 + 6)))), (0, .ref b), (1, .ref (zad E 0)), (2, .ref (zad E 262))]) C dL_law_1692 rfl (by decide) rfl ?_
                                      refine r_goto (tgt := 18) C dL_law_1695 (by decide) ?_
                                      refine r_L (L' := [(0, .ref b), (1, .ref (zad E 0)), (2, .ref (zad E 262)), (3, .int (zi (wr (s11913.1 + 6))))]) [1, 2, 3, 0] rfl ?_
                                      exact k11916 (wr (s11913.1 + 6), s11913.2.1, s11913.2.2) (IR_wr _)
                                    · refine r_bf c12117 ?_
                                      exact fun e => by cases e
                                  · refine r_bf c12100 ?_
                                    by_cases c12118 : (zand v11920 63 = 15)
                                    · refine r_bt c12118 ?_
                                      refine r_tswIn (kx := 15) (tgt := 679) C (i32_IR _) dL_law_33 c12118 (by decide) (by decide) rfl (by decide) ?_
                                      refine r_aload_n (pc := 679) (j := 1) C dL_law_679 rfl rfl ?_
                                      refine r_aload_n (pc := 680) (j := 0) C dL_law_680 rfl rfl ?_
                                      refine r_iload_n (pc := 681) (j := 3) C dL_law_681 rfl rfl ?_
                                      refine r_iconst (v := 1) C dL_law_682 (by decide) ?_
                                      refine r_iadd C dL_law_683 ?_
                                      refine r_bb ?_
                                      refine r_sld C hX (IR_wr _) dL_law_684 (fun v12119 h12120 => ?_)
                                      refine r_aload_n (pc := 685) (j := 0) C dL_law_685 rfl rfl ?_
                                      refine r_iload_n (pc := 686) (j := 3) C dL_law_686 rfl rfl ?_
                                      refine r_iconst (v := 2) C dL_law_687 (by decide) ?_
                                      refine r_iadd C dL_law_688 ?_
                                      refine r_bb ?_
                                      refine r_sld C hX (IR_wr _) dL_law_689 (fun v12121 h12122 => ?_)
                                      refine r_aload_n (pc := 690) (j := 0) C dL_law_690 rfl rfl ?_
                                      refine r_iload_n (pc := 691) (j := 3) C dL_law_691 rfl rfl ?_
                                      refine r_iconst (v := 3) C dL_law_692 (by decide) ?_
                                      refine r_iadd C dL_law_693 ?_
                                      refine r_bb ?_
                                      refine r_sld C hX (IR_wr _) dL_law_694 (fun v12123 h12124 => ?_)
                                      refine r_bb ?_
                                      refine r_bd (fun q12126 e12127 => ?_)
                                      refine r_cV1 (pc := 695) (k := 0) (As := [.int (zi v12119), .int (zi v12121), .int (zi v12123)]) (st := []) C (m_X11_read (a1 := v12119) (a2 := v12121) (a3 := v12123) h12120 h12122 h12124 e12127) cal_X11_read cl_X11 kd_0 ln_0 q_1271 dL_law_695 rfl rfl (Nat.le_of_ble_eq_true rfl) (Nat.le_of_ble_eq_true rfl) (Nat.le_of_ble_eq_true rfl) (Nat.le_of_ble_eq_true rfl) (Nat.le_of_ble_eq_true rfl) (fun h12125 => ?_)
                                      refine r_aload_n (pc := 698) (j := 2) C dL_law_698 rfl rfl ?_
                                      refine r_aload_n (pc := 699) (j := 0) C dL_law_699 rfl rfl ?_
                                      refine r_iload_n (pc := 700) (j := 3) C dL_law_700 rfl rfl ?_
                                      refine r_iconst (v := 1) C dL_law_701 (by decide) ?_
                                      refine r_iadd C dL_law_702 ?_
                                      refine r_bb ?_
                                      refine r_sld C hX (IR_wr _) dL_law_703 (fun v12128 h12129 => ?_)
                                      refine r_aload_n (pc := 704) (j := 0) C dL_law_704 rfl rfl ?_
                                      refine r_iload_n (pc := 705) (j := 3) C dL_law_705 rfl rfl ?_
                                      refine r_iconst (v := 2) C dL_law_706 (by decide) ?_
                                      refine r_iadd C dL_law_707 ?_
                                      refine r_bb ?_
                                      refine r_sld C hX (IR_wr _) dL_law_708 (fun v12130 h12131 => ?_)
                                      refine r_aload_n (pc := 709) (j := 0) C dL_law_709 rfl rfl ?_
                                      refine r_iload_n (pc := 710) (j := 3) C dL_law_710 rfl rfl ?_
                                      refine r_iconst (v := 3) C dL_law_711 (by decide) ?_
                                      refine r_iadd C dL_law_712 ?_
                                      refine r_bb ?_
                                      refine r_sld C hX (IR_wr _) dL_law_713 (fun v12132 h12133 => ?_)
                                      refine r_bb ?_
                                      refine r_bd (fun q12135 e12136 => ?_)
                                      refine r_cV1 (pc := 714) (k := 262) (As := [.int (zi v12128), .int (zi v12130), .int (zi v12132)]) (st := [.int (zi q12126)]) C (m_X12_read (a1 := v12128) (a2 := v12130) (a3 := v12132) h12129 h12131 h12133 e12136) cal_X12_read cl_X12 kd_262 ln_262 q_2150 dL_law_714 rfl rfl (Nat.le_of_ble_eq_true rfl) (Nat.le_of_ble_eq_true rfl) (Nat.le_of_ble_eq_true rfl) (Nat.le_of_ble_eq_true rfl) (Nat.le_of_ble_eq_true rfl) (fun h12134 => ?_)
                                      refine r_icmp_eq (tgt := 1692) C h12125 h12134 dL_law_717 (by decide) (fun c12137 => ?_) (fun c12137 => ?_)
                                      · refine r_bt c12137 ?_
                                        refine r_iinc (j := 3) (L' := [(3, .int (zi (wr (s11913.1 + 6)))), (0, .ref b), (1, .ref (zad E 0)), (2, .ref (zad E 262))]) C dL_law_1692 rfl (by decide) rfl ?_
                                        refine r_goto (tgt := 18) C dL_law_1695 (by decide) ?_
                                        refine r_L (L' := [(0, .ref b), (1, .ref (zad E 0)), (2, .ref (zad E 262)), (3, .int (zi (wr (s11913.1 + 6))))]) [1, 2, 3, 0] rfl ?_
                                        exact k11916 (wr (s11913.1 + 6), s11913.2.1, s11913.2.2) (IR_wr _)
                                      · refine r_bf c12137 ?_
                                        exact fun e => by cases e
                                    · refine r_bf c12118 ?_
                                      by_cases c12138 : (zand v11920 63 = 16)
                                      · refine r_bt c12138 ?_
                                        refine r_tswIn (kx := 16) (tgt := 722) C (i32_IR _) dL_law_33 c12138 (by decide) (by decide) rfl (by decide) ?_
                                        refine r_aload_n (pc := 722) (j := 1) C dL_law_722 rfl rfl ?_
                                        refine r_aload_n (pc := 723) (j := 0) C dL_law_723 rfl rfl ?_
                                        refine r_iload_n (pc := 724) (j := 3) C dL_law_724 rfl rfl ?_
                                        refine r_iconst (v := 1) C dL_law_725 (by decide) ?_
                                        refine r_iadd C dL_law_726 ?_
                                        refine r_bb ?_
                                        refine r_sld C hX (IR_wr _) dL_law_727 (fun v12139 h12140 => ?_)
                                        refine r_bb ?_
                                        refine r_bd (fun q12142 e12143 => ?_)
                                        refine r_cV1 (pc := 728) (k := 0) (As := [.int (zi v12139)]) (st := []) C (m_X11_row (a1 := v12139) h12140 e12143) cal_X11_row cl_X11 kd_0 ln_0 q_1276 dL_law_728 rfl rfl (Nat.le_of_ble_eq_true rfl) (Nat.le_of_ble_eq_true rfl) (Nat.le_of_ble_eq_true rfl) (Nat.le_of_ble_eq_true rfl) (Nat.le_of_ble_eq_true rfl) (fun h12141 => ?_)
                                        refine r_aload_n (pc := 731) (j := 2) C dL_law_731 rfl rfl ?_
                                        refine r_aload_n (pc := 732) (j := 0) C dL_law_732 rfl rfl ?_
                                        refine r_iload_n (pc := 733) (j := 3) C dL_law_733 rfl rfl ?_
                                        refine r_iconst (v := 1) C dL_law_734 (by decide) ?_
                                        refine r_iadd C dL_law_735 ?_
                                        refine r_bb ?_
                                        refine r_sld C hX (IR_wr _) dL_law_736 (fun v12144 h12145 => ?_)
                                        refine r_bb ?_
                                        refine r_bd (fun q12147 e12148 => ?_)
                                        refine r_cV1 (pc := 737) (k := 262) (As := [.int (zi v12144)]) (st := [.int (zi q12142.1)]) C (m_X12_row (a1 := v12144) h12145 e12148) cal_X12_row cl_X12 kd_262 ln_262 q_2154 dL_law_737 rfl rfl (Nat.le_of_ble_eq_true rfl) (Nat.le_of_ble_eq_true rfl) (Nat.le_of_ble_eq_true rfl) (Nat.le_of_ble_eq_true rfl) (Nat.le_of_ble_eq_true rfl) (fun h12146 => ?_)
                                        refine r_icmp_eq (tgt := 1692) C h12141 h12146 dL_law_740 (by decide) (fun c12149 => ?_) (fun c12149 => ?_)
                                        · refine r_bt c12149 ?_
                                          refine r_iinc (j := 3) (L' := [(3, .int (zi (wr (s11913.1 + 6)))), (0, .ref b), (1, .ref (zad E 0)), (2, .ref (zad E 262))]) C dL_law_1692 rfl (by decide) rfl ?_
                                          refine r_goto (tgt := 18) C dL_law_1695 (by decide) ?_
                                          refine r_L (L' := [(0, .ref b), (1, .ref (zad E 0)), (2, .ref (zad E 262)), (3, .int (zi (wr (s11913.1 + 6))))]) [1, 2, 3, 0] rfl ?_
                                          exact k11916 (wr (s11913.1 + 6), q12142.2, q12147.2) (IR_wr _)
                                        · refine r_bf c12149 ?_
                                          exact fun e => by cases e
                                      · refine r_bf c12138 ?_
                                        by_cases c12150 : (zand v11920 63 = 17)
                                        · refine r_bt c12150 ?_
                                          refine r_tswIn (kx := 17) (tgt := 745) C (i32_IR _) dL_law_33 c12150 (by decide) (by decide) rfl (by decide) ?_
                                          refine r_aload_n (pc := 745) (j := 1) C dL_law_745 rfl rfl ?_
                                          refine r_aload_n (pc := 746) (j := 0) C dL_law_746 rfl rfl ?_
                                          refine r_iload_n (pc := 747) (j := 3) C dL_law_747 rfl rfl ?_
                                          refine r_iconst (v := 1) C dL_law_748 (by decide) ?_
                                          refine r_iadd C dL_law_749 ?_
                                          refine r_bb ?_
                                          refine r_sld C hX (IR_wr _) dL_law_750 (fun v12151 h12152 => ?_)
                                          refine r_bb ?_
                                          refine r_bd (fun q12154 e12155 => ?_)
                                          refine r_cV1 (pc := 751) (k := 0) (As := [.int (zi v12151)]) (st := []) C (m_X11_shape (a1 := v12151) h12152 e12155) cal_X11_shape cl_X11 kd_0 ln_0 q_1281 dL_law_751 rfl rfl (Nat.le_of_ble_eq_true rfl) (Nat.le_of_ble_eq_true rfl) (Nat.le_of_ble_eq_true rfl) (Nat.le_of_ble_eq_true rfl) (Nat.le_of_ble_eq_true rfl) (fun h12153 => ?_)
                                          refine r_aload_n (pc := 754) (j := 2) C dL_law_754 rfl rfl ?_
                                          refine r_aload_n (pc := 755) (j := 0) C dL_law_755 rfl rfl ?_
                                          refine r_iload_n (pc := 756) (j := 3) C dL_law_756 rfl rfl ?_
                                          refine r_iconst (v := 1) C dL_law_757 (by decide) ?_
                                          refine r_iadd C dL_law_758 ?_
                                          refine r_bb ?_
                                          refine r_sld C hX (IR_wr _) dL_law_759 (fun v12156 h12157 => ?_)
                                          refine r_bb ?_
                                          refine r_bd (fun q12159 e12160 => ?_)
                                          refine r_cV1 (pc := 760) (k := 262) (As := [.int (zi v12156)]) (st := [.int (zi q12154.1)]) C (m_X12_shape (a1 := v12156) h12157 e12160) cal_X12_shape cl_X12 kd_262 ln_262 q_2158 dL_law_760 rfl rfl (Nat.le_of_ble_eq_true rfl) (Nat.le_of_ble_eq_true rfl) (Nat.le_of_ble_eq_true rfl) (Nat.le_of_ble_eq_true rfl) (Nat.le_of_ble_eq_true rfl) (fun h12158 => ?_)
                                          refine r_icmp_eq (tgt := 1692) C h12153 h12158 dL_law_763 (by decide) (fun c12161 => ?_) (fun c12161 => ?_)
                                          · refine r_bt c12161 ?_
                                            refine r_iinc (j := 3) (L' := [(3, .int (zi (wr (s11913.1 + 6)))), (0, .ref b), (1, .ref (zad E 0)), (2, .ref (zad E 262))]) C dL_law_1692 rfl (by decide) rfl ?_
                                            refine r_goto (tgt := 18) C dL_law_1695 (by decide) ?_
                                            refine r_L (L' := [(0, .ref b), (1, .ref (zad E 0)), (2, .ref (zad E 262)), (3, .int (zi (wr (s11913.1 + 6))))]) [1, 2, 3, 0] rfl ?_
                                            exact k11916 (wr (s11913.1 + 6), q12154.2, q12159.2) (IR_wr _)
                                          · refine r_bf c12161 ?_
                                            exact fun e => by cases e
                                        · refine r_bf c12150 ?_
                                          by_cases c12162 : (zand v11920 63 = 18)
                                          · refine r_bt c12162 ?_
                                            refine r_tswIn (kx := 18) (tgt := 768) C (i32_IR _) dL_law_33 c12162 (by decide) (by decide) rfl (by decide) ?_
                                            refine r_aload_n (pc := 768) (j := 1) C dL_law_768 rfl rfl ?_
                                            refine r_aload_n (pc := 769) (j := 0) C dL_law_769 rfl rfl ?_
                                            refine r_iload_n (pc := 770) (j := 3) C dL_law_770 rfl rfl ?_
                                            refine r_iconst (v := 1) C dL_law_771 (by decide) ?_
                                            refine r_iadd C dL_law_772 ?_
                                            refine r_bb ?_
                                            refine r_sld C hX (IR_wr _) dL_law_773 (fun v12163 h12164 => ?_)
                                            refine r_aload_n (pc := 774) (j := 0) C dL_law_774 rfl rfl ?_
                                            refine r_iload_n (pc := 775) (j := 3) C dL_law_775 rfl rfl ?_
                                            refine r_iconst (v := 2) C dL_law_776 (by decide) ?_
                                            refine r_iadd C dL_law_777 ?_
                                            refine r_bb ?_
                                            refine r_sld C hX (IR_wr _) dL_law_778 (fun v12165 h12166 => ?_)
                                            refine r_bb ?_
                                            refine r_bd (fun q12168 e12169 => ?_)
                                            refine r_cV1 (pc := 779) (k := 0) (As := [.int (zi v12163), .int (zi v12165)]) (st := []) C (m_X11_below (a1 := v12163) (a2 := v12165) h12164 h12166 e12169) cal_X11_below cl_X11 kd_0 ln_0 q_1289 dL_law_779 rfl rfl (Nat.le_of_ble_eq_true rfl) (Nat.le_of_ble_eq_true rfl) (Nat.le_of_ble_eq_true rfl) (Nat.le_of_ble_eq_true rfl) (Nat.le_of_ble_eq_true rfl) (fun h12167 => ?_)
                                            refine r_aload_n (pc := 782) (j := 2) C dL_law_782 rfl rfl ?_
                                            refine r_aload_n (pc := 783) (j := 0) C dL_law_783 rfl rfl ?_
                                            refine r_iload_n (pc := 784) (j := 3) C dL_law_784 rfl rfl ?_
                                            refine r_iconst (v := 1) C dL_law_785 (by decide) ?_
                                            refine r_iadd C dL_law_786 ?_
                                            refine r_bb ?_
                                            refine r_sld C hX (IR_wr _) dL_law_787 (fun v12170 h12171 => ?_)
                                            refine r_aload_n (pc := 788) (j := 0) C dL_law_788 rfl rfl ?_
                                            refine r_iload_n (pc := 789) (j := 3) C dL_law_789 rfl rfl ?_
                                            refine r_iconst (v := 2) C dL_law_790 (by decide) ?_
                                            refine r_iadd C dL_law_791 ?_
                                            refine r_bb ?_
                                            refine r_sld C hX (IR_wr _) dL_law_792 (fun v12172 h12173 => ?_)
                                            refine r_bb ?_
                                            refine r_bd (fun q12175 e12176 => ?_)
                                            refine r_cV1 (pc := 793) (k := 262) (As := [.int (zi v12170), .int (zi v12172)]) (st := [.int (zi q12168.1)]) C (m_X12_below (a1 := v12170) (a2 := v12172) h12171 h12173 e12176) cal_X12_below cl_X12 kd_262 ln_262 q_2162 dL_law_793 rfl rfl (Nat.le_of_ble_eq_true rfl) (Nat.le_of_ble_eq_true rfl) (Nat.le_of_ble_eq_true rfl) (Nat.le_of_ble_eq_true rfl) (Nat.le_of_ble_eq_true rfl) (fun h12174 => ?_)
                                            refine r_icmp_eq (tgt := 1692) C h12167 h12174 dL_law_796 (by decide) (fun c12177 => ?_) (fun c12177 => ?_)
                                            · refine r_bt c12177 ?_
                                              refine r_iinc (j := 3) (L' := [(3, .int (zi (wr (s11913.1 + 6)))), (0, .ref b), (1, .ref (zad E 0)), (2, .ref (zad E 262))]) C dL_law_1692 rfl (by decide) rfl ?_
                                              refine r_goto (tgt := 18) C dL_law_1695 (by decide) ?_
                                              refine r_L (L' := [(0, .ref b), (1, .ref (zad E 0)), (2, .ref (zad E 262)), (3, .int (zi (wr (s11913.1 + 6))))]) [1, 2, 3, 0] rfl ?_
                                              exact k11916 (wr (s11913.1 + 6), q12168.2, s11913.2.2) (IR_wr _)
                                            · refine r_bf c12177 ?_
                                              exact fun e => by cases e
                                          · refine r_bf c12162 ?_
                                            by_cases c12178 : (zand v11920 63 = 19)
                                            · refine r_bt c12178 ?_
                                              refine r_tswIn (kx := 19) (tgt := 801) C (i32_IR _) dL_law_33 c12178 (by decide) (by decide) rfl (by decide) ?_
                                              refine r_aload_n (pc := 801) (j := 1) C dL_law_801 rfl rfl ?_
                                              refine r_aload_n (pc := 802) (j := 0) C dL_law_802 rfl rfl ?_
                                              refine r_iload_n (pc := 803) (j := 3) C dL_law_803 rfl rfl ?_
                                              refine r_iconst (v := 1) C dL_law_804 (by decide) ?_
                                              refine r_iadd C dL_law_805 ?_
                                              refine r_bb ?_
                                              refine r_sld C hX (IR_wr _) dL_law_806 (fun v12179 h12180 => ?_)
                                              refine r_aload_n (pc := 807) (j := 0) C dL_law_807 rfl rfl ?_
                                              refine r_iload_n (pc := 808) (j := 3) C dL_law_808 rfl rfl ?_
                                              refine r_iconst (v := 2) C dL_law_809 (by decide) ?_
                                              refine r_iadd C dL_law_810 ?_
                                              refine r_bb ?_
                                              refine r_sld C hX (IR_wr _) dL_law_811 (fun v12181 h12182 => ?_)
                                              refine r_bb ?_
                                              refine r_bd (fun q12184 e12185 => ?_)
                                              refine r_cV1 (pc := 812) (k := 0) (As := [.int (zi v12179), .int (zi v12181)]) (st := []) C (m_X11_above (a1 := v12179) (a2 := v12181) h12180 h12182 e12185) cal_X11_above cl_X11 kd_0 ln_0 q_1317 dL_law_812 rfl rfl (Nat.le_of_ble_eq_true rfl) (Nat.le_of_ble_eq_true rfl) (Nat.le_of_ble_eq_true rfl) (Nat.le_of_ble_eq_true rfl) (Nat.le_of_ble_eq_true rfl) (fun h12183 => ?_)
                                              refine r_aload_n (pc := 815) (j := 2) C dL_law_815 rfl rfl ?_
                                              refine r_aload_n (pc := 816) (j := 0) C dL_law_816 rfl rfl ?_
                                              refine r_iload_n (pc := 817) (j := 3) C dL_law_817 rfl rfl ?_
                                              refine r_iconst (v := 1) C dL_law_818 (by decide) ?_
                                              refine r_iadd C dL_law_819 ?_
                                              refine r_bb ?_
                                              refine r_sld C hX (IR_wr _) dL_law_820 (fun v12186 h12187 => ?_)
                                              refine r_aload_n (pc := 821) (j := 0) C dL_law_821 rfl rfl ?_
                                              refine r_iload_n (pc := 822) (j := 3) C dL_law_822 rfl rfl ?_
                                              refine r_iconst (v := 2) C dL_law_823 (by decide) ?_
                                              refine r_iadd C dL_law_824 ?_
                                              refine r_bb ?_
                                              refine r_sld C hX (IR_wr _) dL_law_825 (fun v12188 h12189 => ?_)
                                              refine r_bb ?_
                                              refine r_bd (fun q12191 e12192 => ?_)
                                              refine r_cV1 (pc := 826) (k := 262) (As := [.int (zi v12186), .int (zi v12188)]) (st := [.int (zi q12184.1)]) C (m_X12_above (a1 := v12186) (a2 := v12188) h12187 h12189 e12192) cal_X12_above cl_X12 kd_262 ln_262 q_2190 dL_law_826 rfl rfl (Nat.le_of_ble_eq_true rfl) (Nat.le_of_ble_eq_true rfl) (Nat.le_of_ble_eq_true rfl) (Nat.le_of_ble_eq_true rfl) (Nat.le_of_ble_eq_true rfl) (fun h12190 => ?_)
                                              refine r_icmp_eq (tgt := 1692) C h12183 h12190 dL_law_829 (by decide) (fun c12193 => ?_) (fun c12193 => ?_)
                                              · refine r_bt c12193 ?_
                                                refine r_iinc (j := 3) (L' := [(3, .int (zi (wr (s11913.1 + 6)))), (0, .ref b), (1, .ref (zad E 0)), (2, .ref (zad E 262))]) C dL_law_1692 rfl (by decide) rfl ?_
                                                refine r_goto (tgt := 18) C dL_law_1695 (by decide) ?_
                                                refine r_L (L' := [(0, .ref b), (1, .ref (zad E 0)), (2, .ref (zad E 262)), (3, .int (zi (wr (s11913.1 + 6))))]) [1, 2, 3, 0] rfl ?_
                                                exact k11916 (wr (s11913.1 + 6), q12184.2, s11913.2.2) (IR_wr _)
                                              · refine r_bf c12193 ?_
                                                exact fun e => by cases e
                                            · refine r_bf c12178 ?_
                                              by_cases c12194 : (zand v11920 63 = 20)
                                              · refine r_bt c12194 ?_
                                                refine r_tswIn (kx := 20) (tgt := 834) C (i32_IR _) dL_law_33 c12194 (by decide) (by decide) rfl (by decide) ?_
                                                refine r_aload_n (pc := 834) (j := 1) C dL_law_834 rfl rfl ?_
                                                refine r_aload_n (pc := 835) (j := 0) C dL_law_835 rfl rfl ?_
                                                refine r_iload_n (pc := 836) (j := 3) C dL_law_836 rfl rfl ?_
                                                refine r_iconst (v := 1) C dL_law_837 (by decide) ?_
                                                refine r_iadd C dL_law_838 ?_
                                                refine r_bb ?_
                                                refine r_sld C hX (IR_wr _) dL_law_839 (fun v12195 h12196 => ?_)
                                                refine r_aload_n (pc := 840) (j := 0) C dL_law_840 rfl rfl ?_
                                                refine r_iload_n (pc := 841) (j := 3) C dL_law_841 rfl rfl ?_
                                                refine r_iconst (v := 2) C dL_law_842 (by decide) ?_
                                                refine r_iadd C dL_law_843 ?_
                                                refine r_bb ?_
                                                refine r_sld C hX (IR_wr _) dL_law_844 (fun v12197 h12198 => ?_)
                                                refine r_bb ?_
                                                refine r_bd (fun q12200 e12201 => ?_)
                                                refine r_cV1 (pc := 845) (k := 0) (As := [.int (zi v12195), .int (zi v12197)]) (st := []) C (m_X11_on (a1 := v12195) (a2 := v12197) h12196 h12198 e12201) cal_X11_on cl_X11 kd_0 ln_0 q_1325 dL_law_845 rfl rfl (Nat.le_of_ble_eq_true rfl) (Nat.le_of_ble_eq_true rfl) (Nat.le_of_ble_eq_true rfl) (Nat.le_of_ble_eq_true rfl) (Nat.le_of_ble_eq_true rfl) (fun h12199 => ?_)
                                                refine r_aload_n (pc := 848) (j := 2) C dL_law_848 rfl rfl ?_
                                                refine r_aload_n (pc := 849) (j := 0) C dL_law_849 rfl rfl ?_
                                                refine r_iload_n (pc := 850) (j := 3) C dL_law_850 rfl rfl ?_
                                                refine r_iconst (v := 1) C dL_law_851 (by decide) ?_
                                                refine r_iadd C dL_law_852 ?_
                                                refine r_bb ?_
                                                refine r_sld C hX (IR_wr _) dL_law_853 (fun v12202 h12203 => ?_)
                                                refine r_aload_n (pc := 854) (j := 0) C dL_law_854 rfl rfl ?_
                                                refine r_iload_n (pc := 855) (j := 3) C dL_law_855 rfl rfl ?_
                                                refine r_iconst (v := 2) C dL_law_856 (by decide) ?_
                                                refine r_iadd C dL_law_857 ?_
                                                refine r_bb ?_
                                                refine r_sld C hX (IR_wr _) dL_law_858 (fun v12204 h12205 => ?_)
                                                refine r_bb ?_
                                                refine r_bd (fun q12207 e12208 => ?_)
                                                refine r_cV1 (pc := 859) (k := 262) (As := [.int (zi v12202), .int (zi v12204)]) (st := [.int (zi q12200.1)]) C (m_X12_on (a1 := v12202) (a2 := v12204) h12203 h12205 e12208) cal_X12_on cl_X12 kd_262 ln_262 q_2202 dL_law_859 rfl rfl (Nat.le_of_ble_eq_true rfl) (Nat.le_of_ble_eq_true rfl) (Nat.le_of_ble_eq_true rfl) (Nat.le_of_ble_eq_true rfl) (Nat.le_of_ble_eq_true rfl) (fun h12206 => ?_)
                                                refine r_icmp_eq (tgt := 1692) C h12199 h12206 dL_law_862 (by decide) (fun c12209 => ?_) (fun c12209 => ?_)
                                                · refine r_bt c12209 ?_
                                                  refine r_iinc (j := 3) (L' := [(3, .int (zi (wr (s11913.1 + 6)))), (0, .ref b), (1, .ref (zad E 0)), (2, .ref (zad E 262))]) C dL_law_1692 rfl (by decide) rfl ?_
                                                  refine r_goto (tgt := 18) C dL_law_1695 (by decide) ?_
                                                  refine r_L (L' := [(0, .ref b), (1, .ref (zad E 0)), (2, .ref (zad E 262)), (3, .int (zi (wr (s11913.1 + 6))))]) [1, 2, 3, 0] rfl ?_
                                                  exact k11916 (wr (s11913.1 + 6), q12200.2, s11913.2.2) (IR_wr _)
                                                · refine r_bf c12209 ?_
                                                  exact fun e => by cases e
                                              · refine r_bf c12194 ?_
                                                by_cases c12210 : (zand v11920 63 = 21)
                                                · refine r_bt c12210 ?_
                                                  refine r_tswIn (kx := 21) (tgt := 867) C (i32_IR _) dL_law_33 c12210 (by decide) (by decide) rfl (by decide) ?_
                                                  refine r_aload_n (pc := 867) (j := 1) C dL_law_867 rfl rfl ?_
                                                  refine r_aload_n (pc := 868) (j := 0) C dL_law_868 rfl rfl ?_
                                                  refine r_iload_n (pc := 869) (j := 3) C dL_law_869 rfl rfl ?_
                                                  refine r_iconst (v := 1) C dL_law_870 (by decide) ?_
                                                  refine r_iadd C dL_law_871 ?_
                                                  refine r_bb ?_
                                                  refine r_sld C hX (IR_wr _) dL_law_872 (fun v12211 h12212 => ?_)
                                                  refine r_aload_n (pc := 873) (j := 0) C dL_law_873 rfl rfl ?_
                                                  refine r_iload_n (pc := 874) (j := 3) C dL_law_874 rfl rfl ?_
                                                  refine r_iconst (v := 2) C dL_law_875 (by decide) ?_
                                                  refine r_iadd C dL_law_876 ?_
                                                  refine r_bb ?_
                                                  refine r_sld C hX (IR_wr _) dL_law_877 (fun v12213 h12214 => ?_)
                                                  refine r_bb ?_
                                                  refine r_bd (fun q12216 e12217 => ?_)
                                                  refine r_cV1 (pc := 878) (k := 0) (As := [.int (zi v12211), .int (zi v12213)]) (st := []) C (m_X11_depth (a1 := v12211) (a2 := v12213) h12212 h12214 e12217) cal_X11_depth cl_X11 kd_0 ln_0 q_1330 dL_law_878 rfl rfl (Nat.le_of_ble_eq_true rfl) (Nat.le_of_ble_eq_true rfl) (Nat.le_of_ble_eq_true rfl) (Nat.le_of_ble_eq_true rfl) (Nat.le_of_ble_eq_true rfl) (fun h12215 => ?_)
                                                  refine r_aload_n (pc := 881) (j := 2) C dL_law_881 rfl rfl ?_
                                                  refine r_aload_n (pc := 882) (j := 0) C dL_law_882 rfl rfl ?_
                                                  refine r_iload_n (pc := 883) (j := 3) C dL_law_883 rfl rfl ?_
                                                  refine r_iconst (v := 1) C dL_law_884 (by decide) ?_
                                                  refine r_iadd C dL_law_885 ?_
                                                  refine r_bb ?_
                                                  refine r_sld C hX (IR_wr _) dL_law_886 (fun v12218 h12219 => ?_)
                                                  refine r_aload_n (pc := 887) (j := 0) C dL_law_887 rfl rfl ?_
                                                  refine r_iload_n (pc := 888) (j := 3) C dL_law_888 rfl rfl ?_
                                                  refine r_iconst (v := 2) C dL_law_889 (by decide) ?_
                                                  refine r_iadd C dL_law_890 ?_
                                                  refine r_bb ?_
                                                  refine r_sld C hX (IR_wr _) dL_law_891 (fun v12220 h12221 => ?_)
                                                  refine r_bb ?_
                                                  refine r_bd (fun q12223 e12224 => ?_)
                                                  refine r_cV1 (pc := 892) (k := 262) (As := [.int (zi v12218), .int (zi v12220)]) (st := [.int (zi q12216.1)]) C (m_X12_depth (a1 := v12218) (a2 := v12220) h12219 h12221 e12224) cal_X12_depth cl_X12 kd_262 ln_262 q_2206 dL_law_892 rfl rfl (Nat.le_of_ble_eq_true rfl) (Nat.le_of_ble_eq_true rfl) (Nat.le_of_ble_eq_true rfl) (Nat.le_of_ble_eq_true rfl) (Nat.le_of_ble_eq_true rfl) (fun h12222 => ?_)
                                                  refine r_icmp_eq (tgt := 1692) C h12215 h12222 dL_law_895 (by decide) (fun c12225 => ?_) (fun c12225 => ?_)
                                                  · refine r_bt c12225 ?_
                                                    refine r_iinc (j := 3) (L' := [(3, .int (zi (wr (s11913.1 + 6)))), (0, .ref b), (1, .ref (zad E 0)), (2, .ref (zad E 262))]) C dL_law_1692 rfl (by decide) rfl ?_
                                                    refine r_goto (tgt := 18) C dL_law_1695 (by decide) ?_
                                                    refine r_L (L' := [(0, .ref b), (1, .ref (zad E 0)), (2, .ref (zad E 262)), (3, .int (zi (wr (s11913.1 + 6))))]) [1, 2, 3, 0] rfl ?_
                                                    exact k11916 (wr (s11913.1 + 6), q12216.2, q12223.2) (IR_wr _)
                                                  · refine r_bf c12225 ?_
                                                    exact fun e => by cases e
                                                · refine r_bf c12210 ?_
                                                  by_cases c12226 : (zand v11920 63 = 22)
                                                  · refine r_bt c12226 ?_
                                                    refine r_tswIn (kx := 22) (tgt := 900) C (i32_IR _) dL_law_33 c12226 (by decide) (by decide) rfl (by decide) ?_
                                                    refine r_aload_n (pc := 900) (j := 1) C dL_law_900 rfl rfl ?_
                                                    refine r_aload_n (pc := 901) (j := 0) C dL_law_901 rfl rfl ?_
                                                    refine r_iload_n (pc := 902) (j := 3) C dL_law_902 rfl rfl ?_
                                                    refine r_iconst (v := 1) C dL_law_903 (by decide) ?_
                                                    refine r_iadd C dL_law_904 ?_
                                                    refine r_bb ?_
                                                    refine r_sld C hX (IR_wr _) dL_law_905 (fun v12227 h12228 => ?_)
                                                    refine r_aload_n (pc := 906) (j := 0) C dL_law_906 rfl rfl ?_
                                                    refine r_iload_n (pc := 907) (j := 3) C dL_law_907 rfl rfl ?_
                                                    refine r_iconst (v := 2) C dL_law_908 (by decide) ?_
                                                    refine r_iadd C dL_law_909 ?_
                                                    refine r_bb ?_
                                                    refine r_sld C hX (IR_wr _) dL_law_910 (fun v12229 h12230 => ?_)
                                                    refine r_aload_n (pc := 911) (j := 0) C dL_law_911 rfl rfl ?_
                                                    refine r_iload_n (pc := 912) (j := 3) C dL_law_912 rfl rfl ?_
                                                    refine r_iconst (v := 3) C dL_law_913 (by decide) ?_
                                                    refine r_iadd C dL_law_914 ?_
                                                    refine r_bb ?_
                                                    refine r_sld C hX (IR_wr _) dL_law_915 (fun v12231 h12232 => ?_)
                                                    refine r_bb ?_
                                                    refine r_bd (fun q12234 e12235 => ?_)
                                                    refine r_cV1 (pc := 916) (k := 0) (As := [.int (zi v12227), .int (zi v12229), .int (zi v12231)]) (st := []) C (m_X11_gap (a1 := v12227) (a2 := v12229) (a3 := v12231) h12228 h12230 h12232 e12235) cal_X11_gap cl_X11 kd_0 ln_0 q_1334 dL_law_916 rfl rfl (Nat.le_of_ble_eq_true rfl) (Nat.le_of_ble_eq_true rfl) (Nat.le_of_ble_eq_true rfl) (Nat.le_of_ble_eq_true rfl) (Nat.le_of_ble_eq_true rfl) (fun h12233 => ?_)
                                                    refine r_aload_n (pc := 919) (j := 2) C dL_law_919 rfl rfl ?_
                                                    refine r_aload_n (pc := 920) (j := 0) C dL_law_920 rfl rfl ?_
                                                    refine r_iload_n (pc := 921) (j := 3) C dL_law_921 rfl rfl ?_
                                                    refine r_iconst (v := 1) C dL_law_922 (by decide) ?_
                                                    refine r_iadd C dL_law_923 ?_
                                                    refine r_bb ?_
                                                    refine r_sld C hX (IR_wr _) dL_law_924 (fun v12236 h12237 => ?_)
                                                    refine r_aload_n (pc := 925) (j := 0) C dL_law_925 rfl rfl ?_
                                                    refine r_iload_n (pc := 926) (j := 3) C dL_law_926 rfl rfl ?_
                                                    refine r_iconst (v := 2) C dL_law_927 (by decide) ?_
                                                    refine r_iadd C dL_law_928 ?_
                                                    refine r_bb ?_
                                                    refine r_sld C hX (IR_wr _) dL_law_929 (fun v12238 h12239 => ?_)
                                                    refine r_aload_n (pc := 930) (j := 0) C dL_law_930 rfl rfl ?_
                                                    refine r_iload_n (pc := 931) (j := 3) C dL_law_931 rfl rfl ?_
                                                    refine r_iconst (v := 3) C dL_law_932 (by decide) ?_
                                                    refine r_iadd C dL_law_933 ?_
                                                    refine r_bb ?_
                                                    refine r_sld C hX (IR_wr _) dL_law_934 (fun v12240 h12241 => ?_)
                                                    refine r_bb ?_
                                                    refine r_bd (fun q12243 e12244 => ?_)
                                                    refine r_cV1 (pc := 935) (k := 262) (As := [.int (zi v12236), .int (zi v12238), .int (zi v12240)]) (st := [.int (zi q12234.1)]) C (m_X12_gap (a1 := v12236) (a2 := v12238) (a3 := v12240) h12237 h12239 h12241 e12244) cal_X12_gap cl_X12 kd_262 ln_262 q_2210 dL_law_935 rfl rfl (Nat.le_of_ble_eq_true rfl) (Nat.le_of_ble_eq_true rfl) (Nat.le_of_ble_eq_true rfl) (Nat.le_of_ble_eq_true rfl) (Nat.le_of_ble_eq_true rfl) (fun h12242 => ?_)
                                                    refine r_icmp_eq (tgt := 1692) C h12233 h12242 dL_law_938 (by decide) (fun c12245 => ?_) (fun c12245 => ?_)
                                                    · refine r_bt c12245 ?_
                                                      refine r_iinc (j := 3) (L' := [(3, .int (zi (wr (s11913.1 + 6)))), (0, .ref b), (1, .ref (zad E 0)), (2, .ref (zad E 262))]) C dL_law_1692 rfl (by decide) rfl ?_
                                                      refine r_goto (tgt := 18) C dL_law_1695 (by decide) ?_
                                                      refine r_L (L' := [(0, .ref b), (1, .ref (zad E 0)), (2, .ref (zad E 262)), (3, .int (zi (wr (s11913.1 + 6))))]) [1, 2, 3, 0] rfl ?_
                                                      exact k11916 (wr (s11913.1 + 6), q12234.2, s11913.2.2) (IR_wr _)
                                                    · refine r_bf c12245 ?_
                                                      exact fun e => by cases e
                                                  · refine r_bf c12226 ?_
                                                    by_cases c12246 : (zand v11920 63 = 23)
                                                    · refine r_bt c12246 ?_
                                                      refine r_tswIn (kx := 23) (tgt := 943) C (i32_IR _) dL_law_33 c12246 (by decide) (by decide) rfl (by decide) ?_
                                                      refine r_aload_n (pc := 943) (j := 1) C dL_law_943 rfl rfl ?_
                                                      refine r_aload_n (pc := 944) (j := 0) C dL_law_944 rfl rfl ?_
                                                      refine r_iload_n (pc := 945) (j := 3) C dL_law_945 rfl rfl ?_
                                                      refine r_iconst (v := 1) C dL_law_946 (by decide) ?_
                                                      refine r_iadd C dL_law_947 ?_
                                                      refine r_bb ?_
                                                      refine r_sld C hX (IR_wr _) dL_law_948 (fun v12247 h12248 => ?_)
                                                      refine r_aload_n (pc := 949) (j := 0) C dL_law_949 rfl rfl ?_
                                                      refine r_iload_n (pc := 950) (j := 3) C dL_law_950 rfl rfl ?_
                                                      refine r_iconst (v := 2) C dL_law_951 (by decide) ?_
                                                      refine r_iadd C dL_law_952 ?_
                                                      refine r_bb ?_
                                                      refine r_sld C hX (IR_wr _) dL_law_953 (fun v12249 h12250 => ?_)
                                                      refine r_bb ?_
                                                      refine r_bd (fun q12252 e12253 => ?_)
                                                      refine r_cV1 (pc := 954) (k := 0) (As := [.int (zi v12247), .int (zi v12249)]) (st := []) C (m_X11_crossed (a1 := v12247) (a2 := v12249) h12248 h12250 e12253) cal_X11_crossed cl_X11 kd_0 ln_0 q_1344 dL_law_954 rfl rfl (Nat.le_of_ble_eq_true rfl) (Nat.le_of_ble_eq_true rfl) (Nat.le_of_ble_eq_true rfl) (Nat.le_of_ble_eq_true rfl) (Nat.le_of_ble_eq_true rfl) (fun h12251 => ?_)
                                                      refine r_aload_n (pc := 957) (j := 2) C dL_law_957 rfl rfl ?_
                                                      refine r_aload_n (pc := 958) (j := 0) C dL_law_958 rfl rfl ?_
                                                      refine r_iload_n (pc := 959) (j := 3) C dL_law_959 rfl rfl ?_
                                                      refine r_iconst (v := 1) C dL_law_960 (by decide) ?_
                                                      refine r_iadd C dL_law_961 ?_
                                                      refine r_bb ?_
                                                      refine r_sld C hX (IR_wr _) dL_law_962 (fun v12254 h12255 => ?_)
                                                      refine r_aload_n (pc := 963) (j := 0) C dL_law_963 rfl rfl ?_
                                                      refine r_iload_n (pc := 964) (j := 3) C dL_law_964 rfl rfl ?_
                                                      refine r_iconst (v := 2) C dL_law_965 (by decide) ?_
                                                      refine r_iadd C dL_law_966 ?_
                                                      refine r_bb ?_
                                                      refine r_sld C hX (IR_wr _) dL_law_967 (fun v12256 h12257 => ?_)
                                                      refine r_bb ?_
                                                      refine r_bd (fun q12259 e12260 => ?_)
                                                      refine r_cV1 (pc := 968) (k := 262) (As := [.int (zi v12254), .int (zi v12256)]) (st := [.int (zi q12252.1)]) C (m_X12_crossed (a1 := v12254) (a2 := v12256) h12255 h12257 e12260) cal_X12_crossed cl_X12 kd_262 ln_262 q_2217 dL_law_968 rfl rfl (Nat.le_of_ble_eq_true rfl) (Nat.le_of_ble_eq_true rfl) (Nat.le_of_ble_eq_true rfl) (Nat.le_of_ble_eq_true rfl) (Nat.le_of_ble_eq_true rfl) (fun h12258 => ?_)
                                                      refine r_icmp_eq (tgt := 1692) C h12251 h12258 dL_law_971 (by decide) (fun c12261 => ?_) (fun c12261 => ?_)
                                                      · refine r_bt c12261 ?_
                                                        refine r_iinc (j := 3) (L' := [(3, .int (zi (wr (s11913.1 + 6)))), (0, .ref b), (1, .ref (zad E 0)), (2, .ref (zad E 262))]) C dL_law_1692 rfl (by decide) rfl ?_
                                                        refine r_goto (tgt := 18) C dL_law_1695 (by decide) ?_
                                                        refine r_L (L' := [(0, .ref b), (1, .ref (zad E 0)), (2, .ref (zad E 262)), (3, .int (zi (wr (s11913.1 + 6))))]) [1, 2, 3, 0] rfl ?_
                                                        exact k11916 (wr (s11913.1 + 6), q12252.2, s11913.2.2) (IR_wr _)
                                                      · refine r_bf c12261 ?_
                                                        exact fun e => by cases e
                                                    · refine r_bf c12246 ?_
                                                      by_cases c12262 : (zand v11920 63 = 24)
                                                      · refine r_bt c12262 ?_
                                                        refine r_tswIn (kx := 24) (tgt := 976) C (i32_IR _) dL_law_33 c12262 (by decide) (by decide) rfl (by decide) ?_
                                                        refine r_aload_n (pc := 976) (j := 1) C dL_law_976 rfl rfl ?_
                                                        refine r_aload_n (pc := 977) (j := 0) C dL_law_977 rfl rfl ?_
                                                        refine r_iload_n (pc := 978) (j := 3) C dL_law_978 rfl rfl ?_
                                                        refine r_iconst (v := 1) C dL_law_979 (by decide) ?_
                                                        refine r_iadd C dL_law_980 ?_
                                                        refine r_bb ?_
                                                        refine r_sld C hX (IR_wr _) dL_law_981 (fun v12263 h12264 => ?_)
                                                        refine r_aload_n (pc := 982) (j := 0) C dL_law_982 rfl rfl ?_
                                                        refine r_iload_n (pc := 983) (j := 3) C dL_law_983 rfl rfl ?_
                                                        refine r_iconst (v := 2) C dL_law_984 (by decide) ?_
                                                        refine r_iadd C dL_law_985 ?_
                                                        refine r_bb ?_
                                                        refine r_sld C hX (IR_wr _) dL_law_986 (fun v12265 h12266 => ?_)
                                                        refine r_aload_n (pc := 987) (j := 0) C dL_law_987 rfl rfl ?_
                                                        refine r_iload_n (pc := 988) (j := 3) C dL_law_988 rfl rfl ?_
                                                        refine r_iconst (v := 3) C dL_law_989 (by decide) ?_
                                                        refine r_iadd C dL_law_990 ?_
                                                        refine r_bb ?_
                                                        refine r_sld C hX (IR_wr _) dL_law_991 (fun v12267 h12268 => ?_)
                                                        refine r_aload_n (pc := 992) (j := 0) C dL_law_992 rfl rfl ?_
                                                        refine r_iload_n (pc := 993) (j := 3) C dL_law_993 rfl rfl ?_
                                                        refine r_iconst (v := 4) C dL_law_994 (by decide) ?_
                                                        refine r_iadd C dL_law_995 ?_
                                                        refine r_bb ?_
                                                        refine r_sld C hX (IR_wr _) dL_law_996 (fun v12269 h12270 => ?_)
                                                        refine r_bb ?_
                                                        refine r_bd (fun q12272 e12273 => ?_)
                                                        refine r_cV1 (pc := 997) (k := 0) (As := [.int (zi v12263), .int (zi v12265), .int (zi v12267), .int (zi v12269)]) (st := []) C (m_X11_same (a1 := v12263) (a2 := v12265) (a3 := v12267) (a4 := v12269) h12264 h12266 h12268 h12270 e12273) cal_X11_same cl_X11 kd_0 ln_0 q_1348 dL_law_997 rfl rfl (Nat.le_of_ble_eq_true rfl) (Nat.le_of_ble_eq_true rfl) (Nat.le_of_ble_eq_true rfl) (Nat.le_of_ble_eq_true rfl) (Nat.le_of_ble_eq_true rfl) (fun h12271 => ?_)
                                                        refine r_aload_n (pc := 1000) (j := 2) C dL_law_1000 rfl rfl ?_
                                                        refine r_aload_n (pc := 1001) (j := 0) C dL_law_1001 rfl rfl ?_
                                                        refine r_iload_n (pc := 1002) (j := 3) C dL_law_1002 rfl rfl ?_
                                                        refine r_iconst (v := 1) C dL_law_1003 (by decide) ?_
                                                        refine r_iadd C dL_law_1004 ?_
                                                        refine r_bb ?_
                                                        refine r_sld C hX (IR_wr _) dL_law_1005 (fun v12274 h12275 => ?_)
                                                        refine r_aload_n (pc := 1006) (j := 0) C dL_law_1006 rfl rfl ?_
                                                        refine r_iload_n (pc := 1007) (j := 3) C dL_law_1007 rfl rfl ?_
                                                        refine r_iconst (v := 2) C dL_law_1008 (by decide) ?_
                                                        refine r_iadd C dL_law_1009 ?_
                                                        refine r_bb ?_
                                                        refine r_sld C hX (IR_wr _) dL_law_1010 (fun v12276 h12277 => ?_)
                                                        refine r_aload_n (pc := 1011) (j := 0) C dL_law_1011 rfl rfl ?_
                                                        refine r_iload_n (pc := 1012) (j := 3) C dL_law_1012 rfl rfl ?_
                                                        refine r_iconst (v := 3) C dL_law_1013 (by decide) ?_
                                                        refine r_iadd C dL_law_1014 ?_
                                                        refine r_bb ?_
                                                        refine r_sld C hX (IR_wr _) dL_law_1015 (fun v12278 h12279 => ?_)
                                                        refine r_aload_n (pc := 1016) (j := 0) C dL_law_1016 rfl rfl ?_
                                                        refine r_iload_n (pc := 1017) (j := 3) C dL_law_1017 rfl rfl ?_
                                                        refine r_iconst (v := 4) C dL_law_1018 (by decide) ?_
                                                        refine r_iadd C dL_law_1019 ?_
                                                        refine r_bb ?_
                                                        refine r_sld C hX (IR_wr _) dL_law_1020 (fun v12280 h12281 => ?_)
                                                        refine r_bb ?_
                                                        refine r_bd (fun q12283 e12284 => ?_)
                                                        refine r_cV1 (pc := 1021) (k := 262) (As := [.int (zi v12274), .int (zi v12276), .int (zi v12278), .int (zi v12280)]) (st := [.int (zi q12272.1)]) C (m_X12_same (a1 := v12274) (a2 := v12276) (a3 := v12278) (a4 := v12280) h12275 h12277 h12279 h12281 e12284) cal_X12_same cl_X12 kd_262 ln_262 q_2225 dL_law_1021 rfl rfl (Nat.le_of_ble_eq_true rfl) (Nat.le_of_ble_eq_true rfl) (Nat.le_of_ble_eq_true rfl) (Nat.le_of_ble_eq_true rfl) (Nat.le_of_ble_eq_true rfl) (fun h12282 => ?_)
                                                        refine r_icmp_eq (tgt := 1692) C h12271 h12282 dL_law_1024 (by decide) (fun c12285 => ?_) (fun c12285 => ?_)
                                                        · refine r_bt c12285 ?_
                                                          refine r_iinc (j := 3) (L' := [(3, .int (zi (wr (s11913.1 + 6)))), (0, .ref b), (1, .ref (zad E 0)), (2, .ref (zad E 262))]) C dL_law_1692 rfl (by decide) rfl ?_
                                                          refine r_goto (tgt := 18) C dL_law_1695 (by decide) ?_
                                                          refine r_L (L' := [(0, .ref b), (1, .ref (zad E 0)), (2, .ref (zad E 262)), (3, .int (zi (wr (s11913.1 + 6))))]) [1, 2, 3, 0] rfl ?_
                                                          exact k11916 (wr (s11913.1 + 6), q12272.2, s11913.2.2) (IR_wr _)
                                                        · refine r_bf c12285 ?_
                                                          exact fun e => by cases e
                                                      · refine r_bf c12262 ?_
                                                        by_cases c12286 : (zand v11920 63 = 25)
                                                        · refine r_bt c12286 ?_
                                                          refine r_tswIn (kx := 25) (tgt := 1029) C (i32_IR _) dL_law_33 c12286 (by decide) (by decide) rfl (by decide) ?_
                                                          refine r_aload_n (pc := 1029) (j := 1) C dL_law_1029 rfl rfl ?_
                                                          refine r_aload_n (pc := 1030) (j := 0) C dL_law_1030 rfl rfl ?_
                                                          refine r_iload_n (pc := 1031) (j := 3) C dL_law_1031 rfl rfl ?_
                                                          refine r_iconst (v := 1) C dL_law_1032 (by decide) ?_
                                                          refine r_iadd C dL_law_1033 ?_
                                                          refine r_bb ?_
                                                          refine r_sld C hX (IR_wr _) dL_law_1034 (fun v12287 h12288 => ?_)
                                                          refine r_aload_n (pc := 1035) (j := 0) C dL_law_1035 rfl rfl ?_
                                                          refine r_iload_n (pc := 1036) (j := 3) C dL_law_1036 rfl rfl ?_
                                                          refine r_iconst (v := 2) C dL_law_1037 (by decide) ?_
                                                          refine r_iadd C dL_law_1038 ?_
                                                          refine r_bb ?_
                                                          refine r_sld C hX (IR_wr _) dL_law_1039 (fun v12289 h12290 => ?_)
                                                          refine r_cV1 (pc := 1040) (k := 0) (As := [.int (zi v12287), .int (zi v12289)]) (st := []) C (m_X11_unlike (a1 := v12287) (a2 := v12289) h12288 h12290 rfl) cal_X11_unlike cl_X11 kd_0 ln_0 q_1352 dL_law_1040 rfl rfl (Nat.le_of_ble_eq_true rfl) (Nat.le_of_ble_eq_true rfl) (Nat.le_of_ble_eq_true rfl) (Nat.le_of_ble_eq_true rfl) (Nat.le_of_ble_eq_true rfl) (fun h12291 => ?_)
                                                          refine r_aload_n (pc := 1043) (j := 2) C dL_law_1043 rfl rfl ?_
                                                          refine r_aload_n (pc := 1044) (j := 0) C dL_law_1044 rfl rfl ?_
                                                          refine r_iload_n (pc := 1045) (j := 3) C dL_law_1045 rfl rfl ?_
                                                          refine r_iconst (v := 1) C dL_law_1046 (by decide) ?_
                                                          refine r_iadd C dL_law_1047 ?_
                                                          refine r_bb ?_
                                                          refine r_sld C hX (IR_wr _) dL_law_1048 (fun v12292 h12293 => ?_)
                                                          refine r_aload_n (pc := 1049) (j := 0) C dL_law_1049 rfl rfl ?_
                                                          refine r_iload_n (pc := 1050) (j := 3) C dL_law_1050 rfl rfl ?_
                                                          refine r_iconst (v := 2) C dL_law_1051 (by decide) ?_
                                                          refine r_iadd C dL_law_1052 ?_
                                                          refine r_bb ?_
                                                          refine r_sld C hX (IR_wr _) dL_law_1053 (fun v12294 h12295 => ?_)
                                                          refine r_bb ?_
                                                          refine r_bd (fun q12297 e12298 => ?_)
                                                          refine r_cV1 (pc := 1054) (k := 262) (As := [.int (zi v12292), .int (zi v12294)]) (st := [.int (zi (f_X11_unlike v12287 v12289 s11913.2.1))]) C (m_X12_unlike (a1 := v12292) (a2 := v12294) h12293 h12295 e12298) cal_X12_unlike cl_X12 kd_262 ln_262 q_2229 dL_law_1054 rfl rfl (Nat.le_of_ble_eq_true rfl) (Nat.le_of_ble_eq_true rfl) (Nat.le_of_ble_eq_true rfl) (Nat.le_of_ble_eq_true rfl) (Nat.le_of_ble_eq_true rfl) (fun h12296 => ?_)
                                                          refine r_icmp_eq (tgt := 1692) C h12291 h12296 dL_law_1057 (by decide) (fun c12299 => ?_) (fun c12299 => ?_)
                                                          · refine r_bt c12299 ?_
                                                            refine r_iinc (j := 3) (L' := [(3, .int (zi (wr (s11913.1 + 6)))), (0, .ref b), (1, .ref (zad E 0)), (2, .ref (zad E 262))]) C dL_law_1692 rfl (by decide) rfl ?_
                                                            refine r_goto (tgt := 18) C dL_law_1695 (by decide) ?_
                                                            refine r_L (L' := [(0, .ref b), (1, .ref (zad E 0)), (2, .ref (zad E 262)), (3, .int (zi (wr (s11913.1 + 6))))]) [1, 2, 3, 0] rfl ?_
                                                            exact k11916 (wr (s11913.1 + 6), s11913.2.1, s11913.2.2) (IR_wr _)
                                                          · refine r_bf c12299 ?_
                                                            exact fun e => by cases e
                                                        · refine r_bf c12286 ?_
                                                          by_cases c12300 : (zand v11920 63 = 26)
                                                          · refine r_bt c12300 ?_
                                                            refine r_tswIn (kx := 26) (tgt := 1062) C (i32_IR _) dL_law_33 c12300 (by decide) (by decide) rfl (by decide) ?_
                                                            refine r_aload_n (pc := 1062) (j := 1) C dL_law_1062 rfl rfl ?_
                                                            refine r_aload_n (pc := 1063) (j := 0) C dL_law_1063 rfl rfl ?_
                                                            refine r_iload_n (pc := 1064) (j := 3) C dL_law_1064 rfl rfl ?_
                                                            refine r_iconst (v := 1) C dL_law_1065 (by decide) ?_
                                                            refine r_iadd C dL_law_1066 ?_
                                                            refine r_bb ?_
                                                            refine r_sld C hX (IR_wr _) dL_law_1067 (fun v12301 h12302 => ?_)
                                                            refine r_aload_n (pc := 1068) (j := 0) C dL_law_1068 rfl rfl ?_
                                                            refine r_iload_n (pc := 1069) (j := 3) C dL_law_1069 rfl rfl ?_
                                                            refine r_iconst (v := 2) C dL_law_1070 (by decide) ?_
                                                            refine r_iadd C dL_law_1071 ?_
                                                            refine r_bb ?_
                                                            refine r_sld C hX (IR_wr _) dL_law_1072 (fun v12303 h12304 => ?_)
                                                            refine r_bb ?_
                                                            refine r_bd (fun q12306 e12307 => ?_)
                                                            refine r_cV1 (pc := 1073) (k := 0) (As := [.int (zi v12301), .int (zi v12303)]) (st := []) C (m_X11_shared (a1 := v12301) (a2 := v12303) h12302 h12304 e12307) cal_X11_shared cl_X11 kd_0 ln_0 q_1356 dL_law_1073 rfl rfl (Nat.le_of_ble_eq_true rfl) (Nat.le_of_ble_eq_true rfl) (Nat.le_of_ble_eq_true rfl) (Nat.le_of_ble_eq_true rfl) (Nat.le_of_ble_eq_true rfl) (fun h12305 => ?_)
                                                            refine r_aload_n (pc := 1076) (j := 2) C dL_law_1076 rfl rfl ?_
                                                            refine r_aload_n (pc := 1077) (j := 0) C dL_law_1077 rfl rfl ?_
                                                            refine r_iload_n (pc := 1078) (j := 3) C dL_law_1078 rfl rfl ?_
                                                            refine r_iconst (v := 1) C dL_law_1079 (by decide) ?_
                                                            refine r_iadd C dL_law_1080 ?_
                                                            refine r_bb ?_
                                                            refine r_sld C hX (IR_wr _) dL_law_1081 (fun v12308 h12309 => ?_)
                                                            refine r_aload_n (pc := 1082) (j := 0) C dL_law_1082 rfl rfl ?_
                                                            refine r_iload_n (pc := 1083) (j := 3) C dL_law_1083 rfl rfl ?_
                                                            refine r_iconst (v := 2) C dL_law_1084 (by decide) ?_
                                                            refine r_iadd C dL_law_1085 ?_
                                                            refine r_bb ?_
                                                            refine r_sld C hX (IR_wr _) dL_law_1086 (fun v12310 h12311 => ?_)
                                                            refine r_bb ?_
                                                            refine r_bd (fun q12313 e12314 => ?_)
                                                            refine r_cV1 (pc := 1087) (k := 262) (As := [.int (zi v12308), .int (zi v12310)]) (st := [.int (zi q12306)]) C (m_X12_shared (a1 := v12308) (a2 := v12310) h12309 h12311 e12314) cal_X12_shared cl_X12 kd_262 ln_262 q_2233 dL_law_1087 rfl rfl (Nat.le_of_ble_eq_true rfl) (Nat.le_of_ble_eq_true rfl) (Nat.le_of_ble_eq_true rfl) (Nat.le_of_ble_eq_true rfl) (Nat.le_of_ble_eq_true rfl) (fun h12312 => ?_)
                                                            refine r_icmp_eq (tgt := 1692) C h12305 h12312 dL_law_1090 (by decide) (fun c12315 => ?_) (fun c12315 => ?_)
                                                            · refine r_bt c12315 ?_
                                                              refine r_iinc (j := 3) (L' := [(3, .int (zi (wr (s11913.1 + 6)))), (0, .ref b), (1, .ref (zad E 0)), (2, .ref (zad E 262))]) C dL_law_1692 rfl (by decide) rfl ?_
                                                              refine r_goto (tgt := 18) C dL_law_1695 (by decide) ?_
                                                              refine r_L (L' := [(0, .ref b), (1, .ref (zad E 0)), (2, .ref (zad E 262)), (3, .int (zi (wr (s11913.1 + 6))))]) [1, 2, 3, 0] rfl ?_
                                                              exact k11916 (wr (s11913.1 + 6), s11913.2.1, s11913.2.2) (IR_wr _)
                                                            · refine r_bf c12315 ?_
                                                              exact fun e => by cases e
                                                          · refine r_bf c12300 ?_
                                                            by_cases c12316 : (zand v11920 63 = 27)
                                                            · refine r_bt c12316 ?_
                                                              refine r_tswIn (kx := 27) (tgt := 1095) C (i32_IR _) dL_law_33 c12316 (by decide) (by decide) rfl (by decide) ?_
                                                              refine r_aload_n (pc := 1095) (j := 1) C dL_law_1095 rfl rfl ?_
                                                              refine r_bb ?_
                                                              refine r_bd (fun q12318 e12319 => ?_)
                                                              refine r_cV1 (pc := 1096) (k := 0) (As := []) (st := []) C (m_X11_written  e12319) cal_X11_written cl_X11 kd_0 ln_0 q_1361 dL_law_1096 rfl rfl (Nat.le_of_ble_eq_true rfl) (Nat.le_of_ble_eq_true rfl) (Nat.le_of_ble_eq_true rfl) (Nat.le_of_ble_eq_true rfl) (Nat.le_of_ble_eq_true rfl) (fun h12317 => ?_)
                                                              refine r_aload_n (pc := 1099) (j := 2) C dL_law_1099 rfl rfl ?_
                                                              refine r_bb ?_
                                                              refine r_bd (fun q12321 e12322 => ?_)
                                                              refine r_cV1 (pc := 1100) (k := 262) (As := []) (st := [.int (zi q12318)]) C (m_X12_written  e12322) cal_X12_written cl_X12 kd_262 ln_262 q_2237 dL_law_1100 rfl rfl (Nat.le_of_ble_eq_true rfl) (Nat.le_of_ble_eq_true rfl) (Nat.le_of_ble_eq_true rfl) (Nat.le_of_ble_eq_true rfl) (Nat.le_of_ble_eq_true rfl) (fun h12320 => ?_)
                                                              refine r_icmp_eq (tgt := 1692) C h12317 h12320 dL_law_1103 (by decide) (fun c12323 => ?_) (fun c12323 => ?_)
                                                              · refine r_bt c12323 ?_
                                                                refine r_iinc (j := 3) (L' := [(3, .int (zi (wr (s11913.1 + 6)))), (0, .ref b), (1, .ref (zad E 0)), (2, .ref (zad E 262))]) C dL_law_1692 rfl (by decide) rfl ?_
                                                                refine r_goto (tgt := 18) C dL_law_1695 (by decide) ?_
                                                                refine r_L (L' := [(0, .ref b), (1, .ref (zad E 0)), (2, .ref (zad E 262)), (3, .int (zi (wr (s11913.1 + 6))))]) [1, 2, 3, 0] rfl ?_
                                                                exact k11916 (wr (s11913.1 + 6), s11913.2.1, s11913.2.2) (IR_wr _)
                                                              · refine r_bf c12323 ?_
                                                                exact fun e => by cases e
                                                            · refine r_bf c12316 ?_
                                                              by_cases c12324 : (zand v11920 63 = 28)
                                                              · refine r_bt c12324 ?_
                                                                refine r_tswIn (kx := 28) (tgt := 1108) C (i32_IR _) dL_law_33 c12324 (by decide) (by decide) rfl (by decide) ?_
                                                                refine r_aload_n (pc := 1108) (j := 1) C dL_law_1108 rfl rfl ?_
                                                                refine r_aload_n (pc := 1109) (j := 0) C dL_law_1109 rfl rfl ?_
                                                                refine r_iload_n (pc := 1110) (j := 3) C dL_law_1110 rfl rfl ?_
                                                                refine r_iconst (v := 1) C dL_law_1111 (by decide) ?_
                                                                refine r_iadd C dL_law_1112 ?_
                                                                refine r_bb ?_
                                                                refine r_sld C hX (IR_wr _) dL_law_1113 (fun v12325 h12326 => ?_)
                                                                refine r_bb ?_
                                                                refine r_bd (fun q12328 e12329 => ?_)
                                                                refine r_cV1 (pc := 1114) (k := 0) (As := [.int (zi v12325)]) (st := []) C (m_X11_copies (a1 := v12325) h12326 e12329) cal_X11_copies cl_X11 kd_0 ln_0 q_1369 dL_law_1114 rfl rfl (Nat.le_of_ble_eq_true rfl) (Nat.le_of_ble_eq_true rfl) (Nat.le_of_ble_eq_true rfl) (Nat.le_of_ble_eq_true rfl) (Nat.le_of_ble_eq_true rfl) (fun h12327 => ?_)
                                                                refine r_aload_n (pc := 1117) (j := 2) C dL_law_1117 rfl rfl ?_
                                                                refine r_aload_n (pc := 1118) (j := 0) C dL_law_1118 rfl rfl ?_
                                                                refine r_iload_n (pc := 1119) (j := 3) C dL_law_1119 rfl rfl ?_
                                                                refine r_iconst (v := 1) C dL_law_1120 (by decide) ?_
                                                                refine r_iadd C dL_law_1121 ?_
                                                                refine r_bb ?_
                                                                refine r_sld C hX (IR_wr _) dL_law_1122 (fun v12330 h12331 => ?_)
                                                                refine r_bb ?_
                                                                refine r_bd (fun q12333 e12334 => ?_)
                                                                refine r_cV1 (pc := 1123) (k := 262) (As := [.int (zi v12330)]) (st := [.int (zi q12328)]) C (m_X12_copies (a1 := v12330) h12331 e12334) cal_X12_copies cl_X12 kd_262 ln_262 q_2245 dL_law_1123 rfl rfl (Nat.le_of_ble_eq_true rfl) (Nat.le_of_ble_eq_true rfl) (Nat.le_of_ble_eq_true rfl) (Nat.le_of_ble_eq_true rfl) (Nat.le_of_ble_eq_true rfl) (fun h12332 => ?_)
                                                                refine r_icmp_eq (tgt := 1692) C h12327 h12332 dL_law_1126 (by decide) (fun c12335 => ?_) (fun c12335 => ?_)
                                                                · refine r_bt c12335 ?_
                                                                  refine r_iinc (j := 3) (L' := [(3, .int (zi (wr (s11913.1 + 6)))), (0, .ref b), (1, .ref (zad E 0)), (2, .ref (zad E 262))]) C dL_law_1692 rfl (by decide) rfl ?_
                                                                  refine r_goto (tgt := 18) C dL_law_1695 (by decide) ?_
                                                                  refine r_L (L' := [(0, .ref b), (1, .ref (zad E 0)), (2, .ref (zad E 262)), (3, .int (zi (wr (s11913.1 + 6))))]) [1, 2, 3, 0] rfl ?_
                                                                  exact k11916 (wr (s11913.1 + 6), s11913.2.1, s11913.2.2) (IR_wr _)
                                                                · refine r_bf c12335 ?_
                                                                  exact fun e => by cases e
                                                              · refine r_bf c12324 ?_
                                                                by_cases c12336 : (zand v11920 63 = 29)
                                                                · refine r_bt c12336 ?_
                                                                  refine r_tswIn (kx := 29) (tgt := 1131) C (i32_IR _) dL_law_33 c12336 (by decide) (by decide) rfl (by decide) ?_
                                                                  refine r_aload_n (pc := 1131) (j := 1) C dL_law_1131 rfl rfl ?_
                                                                  refine r_bb ?_
                                                                  refine r_bd (fun q12338 e12339 => ?_)
                                                                  refine r_cV1 (pc := 1132) (k := 0) (As := []) (st := []) C (m_X11_dearest  e12339) cal_X11_dearest cl_X11 kd_0 ln_0 q_1377 dL_law_1132 rfl rfl (Nat.le_of_ble_eq_true rfl) (Nat.le_of_ble_eq_true rfl) (Nat.le_of_ble_eq_true rfl) (Nat.le_of_ble_eq_true rfl) (Nat.le_of_ble_eq_true rfl) (fun h12337 => ?_)
                                                                  refine r_aload_n (pc := 1135) (j := 2) C dL_law_1135 rfl rfl ?_
                                                                  refine r_bb ?_
                                                                  refine r_bd (fun q12341 e12342 => ?_)
                                                                  refine r_cV1 (pc := 1136) (k := 262) (As := []) (st := [.int (zi q12338)]) C (m_X12_dearest  e12342) cal_X12_dearest cl_X12 kd_262 ln_262 q_2257 dL_law_1136 rfl rfl (Nat.le_of_ble_eq_true rfl) (Nat.le_of_ble_eq_true rfl) (Nat.le_of_ble_eq_true rfl) (Nat.le_of_ble_eq_true rfl) (Nat.le_of_ble_eq_true rfl) (fun h12340 => ?_)
                                                                  refine r_icmp_eq (tgt := 1692) C h12337 h12340 dL_law_1139 (by decide) (fun c12343 => ?_) (fun c12343 => ?_)
                                                                  · refine r_bt c12343 ?_
                                                                    refine r_iinc (j := 3) (L' := [(3, .int (zi (wr (s11913.1 + 6)))), (0, .ref b), (1, .ref (zad E 0)), (2, .ref (zad E 262))]) C dL_law_1692 rfl (by decide) rfl ?_
                                                                    refine r_goto (tgt := 18) C dL_law_1695 (by decide) ?_
                                                                    refine r_L (L' := [(0, .ref b), (1, .ref (zad E 0)), (2, .ref (zad E 262)), (3, .int (zi (wr (s11913.1 + 6))))]) [1, 2, 3, 0] rfl ?_
                                                                    exact k11916 (wr (s11913.1 + 6), s11913.2.1, s11913.2.2) (IR_wr _)
                                                                  · refine r_bf c12343 ?_
                                                                    exact fun e => by cases e
                                                                · refine r_bf c12336 ?_
                                                                  by_cases c12344 : (zand v11920 63 = 30)
                                                                  · refine r_bt c12344 ?_
                                                                    refine r_tswIn (kx := 30) (tgt := 1144) C (i32_IR _) dL_law_33 c12344 (by decide) (by decide) rfl (by decide) ?_
                                                                    refine r_aload_n (pc := 1144) (j := 1) C dL_law_1144 rfl rfl ?_
                                                                    refine r_bb ?_
                                                                    refine r_bd (fun q12346 e12347 => ?_)
                                                                    refine r_cV1 (pc := 1145) (k := 0) (As := []) (st := []) C (m_X11_paid  e12347) cal_X11_paid cl_X11 kd_0 ln_0 q_1381 dL_law_1145 rfl rfl (Nat.le_of_ble_eq_true rfl) (Nat.le_of_ble_eq_true rfl) (Nat.le_of_ble_eq_true rfl) (Nat.le_of_ble_eq_true rfl) (Nat.le_of_ble_eq_true rfl) (fun h12345 => ?_)
                                                                    refine r_aload_n (pc := 1148) (j := 2) C dL_law_1148 rfl rfl ?_
                                                                    refine r_bb ?_
                                                                    refine r_bd (fun q12349 e12350 => ?_)
                                                                    refine r_cV1 (pc := 1149) (k := 262) (As := []) (st := [.int (zi q12346)]) C (m_X12_paid  e12350) cal_X12_paid cl_X12 kd_262 ln_262 q_2261 dL_law_1149 rfl rfl (Nat.le_of_ble_eq_true rfl) (Nat.le_of_ble_eq_true rfl) (Nat.le_of_ble_eq_true rfl) (Nat.le_of_ble_eq_true rfl) (Nat.le_of_ble_eq_true rfl) (fun h12348 => ?_)
                                                                    refine r_icmp_eq (tgt := 1692) C h12345 h12348 dL_law_1152 (by decide) (fun c12351 => ?_) (fun c12351 => ?_)
                                                                    · refine r_bt c12351 ?_
                                                                      refine r_iinc (j := 3) (L' := [(3, .int (zi (wr (s11913.1 + 6)))), (0, .ref b), (1, .ref (zad E 0)), (2, .ref (zad E 262))]) C dL_law_1692 rfl (by decide) rfl ?_
                                                                      refine r_goto (tgt := 18) C dL_law_1695 (by decide) ?_
                                                                      refine r_L (L' := [(0, .ref b), (1, .ref (zad E 0)), (2, .ref (zad E 262)), (3, .int (zi (wr (s11913.1 + 6))))]) [1, 2, 3, 0] rfl ?_
                                                                      exact k11916 (wr (s11913.1 + 6), s11913.2.1, s11913.2.2) (IR_wr _)
                                                                    · refine r_bf c12351 ?_
                                                                      exact fun e => by cases e
                                                                  · refine r_bf c12344 ?_
                                                                    by_cases c12352 : (zand v11920 63 = 31)
                                                                    · refine r_bt c12352 ?_
                                                                      refine r_tswIn (kx := 31) (tgt := 1157) C (i32_IR _) dL_law_33 c12352 (by decide) (by decide) rfl (by decide) ?_
                                                                      refine r_aload_n (pc := 1157) (j := 1) C dL_law_1157 rfl rfl ?_
                                                                      refine r_bb ?_
                                                                      refine r_bd (fun q12354 e12355 => ?_)
                                                                      refine r_cV1 (pc := 1158) (k := 0) (As := []) (st := []) C (m_X11_credit  e12355) cal_X11_credit cl_X11 kd_0 ln_0 q_1386 dL_law_1158 rfl rfl (Nat.le_of_ble_eq_true rfl) (Nat.le_of_ble_eq_true rfl) (Nat.le_of_ble_eq_true rfl) (Nat.le_of_ble_eq_true rfl) (Nat.le_of_ble_eq_true rfl) (fun h12353 => ?_)
                                                                      refine r_aload_n (pc := 1161) (j := 2) C dL_law_1161 rfl rfl ?_
                                                                      refine r_bb ?_
                                                                      refine r_bd (fun q12357 e12358 => ?_)
                                                                      refine r_cV1 (pc := 1162) (k := 262) (As := []) (st := [.int (zi q12354)]) C (m_X12_credit  e12358) cal_X12_credit cl_X12 kd_262 ln_262 q_2265 dL_law_1162 rfl rfl (Nat.le_of_ble_eq_true rfl) (Nat.le_of_ble_eq_true rfl) (Nat.le_of_ble_eq_true rfl) (Nat.le_of_ble_eq_true rfl) (Nat.le_of_ble_eq_true rfl) (fun h12356 => ?_)
                                                                      refine r_icmp_eq (tgt := 1692) C h12353 h12356 dL_law_1165 (by decide) (fun c12359 => ?_) (fun c12359 => ?_)
                                                                      · refine r_bt c12359 ?_
                                                                        refine r_iinc (j := 3) (L' := [(3, .int (zi (wr (s11913.1 + 6)))), (0, .ref b), (1, .ref (zad E 0)), (2, .ref (zad E 262))]) C dL_law_1692 rfl (by decide) rfl ?_
                                                                        refine r_goto (tgt := 18) C dL_law_1695 (by decide) ?_
                                                                        refine r_L (L' := [(0, .ref b), (1, .ref (zad E 0)), (2, .ref (zad E 262)), (3, .int (zi (wr (s11913.1 + 6))))]) [1, 2, 3, 0] rfl ?_
                                                                        exact k11916 (wr (s11913.1 + 6), s11913.2.1, s11913.2.2) (IR_wr _)
                                                                      · refine r_bf c12359 ?_
                                                                        exact fun e => by cases e
                                                                    · refine r_bf c12352 ?_
                                                                      by_cases c12360 : (zand v11920 63 = 32)
                                                                      · refine r_bt c12360 ?_
                                                                        refine r_tswIn (kx := 32) (tgt := 1170) C (i32_IR _) dL_law_33 c12360 (by decide) (by decide) rfl (by decide) ?_
                                                                        refine r_aload_n (pc := 1170) (j := 1) C dL_law_1170 rfl rfl ?_
                                                                        refine r_aload_n (pc := 1171) (j := 0) C dL_law_1171 rfl rfl ?_
                                                                        refine r_iload_n (pc := 1172) (j := 3) C dL_law_1172 rfl rfl ?_
                                                                        refine r_iconst (v := 1) C dL_law_1173 (by decide) ?_
                                                                        refine r_iadd C dL_law_1174 ?_
                                                                        refine r_bb ?_
                                                                        refine r_sld C hX (IR_wr _) dL_law_1175 (fun v12361 h12362 => ?_)
                                                                        refine r_bb ?_
                                                                        refine r_bd (fun q12364 e12365 => ?_)
                                                                        refine r_cV1 (pc := 1176) (k := 0) (As := [.int (zi v12361)]) (st := []) C (m_X11_law (a1 := v12361) h12362 e12365) cal_X11_law cl_X11 kd_0 ln_0 q_1390 dL_law_1176 rfl rfl (Nat.le_of_ble_eq_true rfl) (Nat.le_of_ble_eq_true rfl) (Nat.le_of_ble_eq_true rfl) (Nat.le_of_ble_eq_true rfl) (Nat.le_of_ble_eq_true rfl) (fun h12363 => ?_)
                                                                        refine r_aload_n (pc := 1179) (j := 2) C dL_law_1179 rfl rfl ?_
                                                                        refine r_aload_n (pc := 1180) (j := 0) C dL_law_1180 rfl rfl ?_
                                                                        refine r_iload_n (pc := 1181) (j := 3) C dL_law_1181 rfl rfl ?_
                                                                        refine r_iconst (v := 1) C dL_law_1182 (by decide) ?_
                                                                        refine r_iadd C dL_law_1183 ?_
                                                                        refine r_bb ?_
                                                                        refine r_sld C hX (IR_wr _) dL_law_1184 (fun v12366 h12367 => ?_)
                                                                        refine r_bb ?_
                                                                        refine r_bd (fun q12369 e12370 => ?_)
                                                                        refine r_cV1 (pc := 1185) (k := 262) (As := [.int (zi v12366)]) (st := [.int (zi q12364.1)]) C (m_X12_law (a1 := v12366) h12367 e12370) cal_X12_law cl_X12 kd_262 ln_262 q_2269 dL_law_1185 rfl rfl (Nat.le_of_ble_eq_true rfl) (Nat.le_of_ble_eq_true rfl) (Nat.le_of_ble_eq_true rfl) (Nat.le_of_ble_eq_true rfl) (Nat.le_of_ble_eq_true rfl) (fun h12368 => ?_)
                                                                        refine r_icmp_eq (tgt := 1692) C h12363 h12368 dL_law_1188 (by decide) (fun c12371 => ?_) (fun c12371 => ?_)
                                                                        · refine r_bt c12371 ?_
                                                                          refine r_iinc (j := 3) (L' := [(3, .int (zi (wr (s11913.1 + 6)))), (0, .ref b), (1, .ref (zad E 0)), (2, .ref (zad E 262))]) C dL_law_1692 rfl (by decide) rfl ?_
                                                                          refine r_goto (tgt := 18) C dL_law_1695 (by decide) ?_
                                                                          refine r_L (L' := [(0, .ref b), (1, .ref (zad E 0)), (2, .ref (zad E 262)), (3, .int (zi (wr (s11913.1 + 6))))]) [1, 2, 3, 0] rfl ?_
                                                                          exact k11916 (wr (s11913.1 + 6), q12364.2, q12369.2) (IR_wr _)
                                                                        · refine r_bf c12371 ?_
                                                                          exact fun e => by cases e
                                                                      · refine r_bf c12360 ?_
                                                                        by_cases c12372 : (zand v11920 63 = 33)
                                                                        · refine r_bt c12372 ?_
                                                                          refine r_tswIn (kx := 33) (tgt := 1193) C (i32_IR _) dL_law_33 c12372 (by decide) (by decide) rfl (by decide) ?_
                                                                          refine r_aload_n (pc := 1193) (j := 1) C dL_law_1193 rfl rfl ?_
                                                                          refine r_bb ?_
                                                                          refine r_bd (fun q12374 e12375 => ?_)
                                                                          refine r_cV1 (pc := 1194) (k := 0) (As := []) (st := []) C (m_X11_busiest  e12375) cal_X11_busiest cl_X11 kd_0 ln_0 q_1395 dL_law_1194 rfl rfl (Nat.le_of_ble_eq_true rfl) (Nat.le_of_ble_eq_true rfl) (Nat.le_of_ble_eq_true rfl) (Nat.le_of_ble_eq_true rfl) (Nat.le_of_ble_eq_true rfl) (fun h12373 => ?_)
                                                                          refine r_aload_n (pc := 1197) (j := 2) C dL_law_1197 rfl rfl ?_
                                                                          refine r_bb ?_
                                                                          refine r_bd (fun q12377 e12378 => ?_)
                                                                          refine r_cV1 (pc := 1198) (k := 262) (As := []) (st := [.int (zi q12374)]) C (m_X12_busiest  e12378) cal_X12_busiest cl_X12 kd_262 ln_262 q_2281 dL_law_1198 rfl rfl (Nat.le_of_ble_eq_true rfl) (Nat.le_of_ble_eq_true rfl) (Nat.le_of_ble_eq_true rfl) (Nat.le_of_ble_eq_true rfl) (Nat.le_of_ble_eq_true rfl) (fun h12376 => ?_)
                                                                          refine r_icmp_eq (tgt := 1692) C h12373 h12376 dL_law_1201 (by decide) (fun c12379 => ?_) (fun c12379 => ?_)
                                                                          · refine r_bt c12379 ?_
                                                                            refine r_iinc (j := 3) (L' := [(3, .int (zi (wr (s11913.1 + 6)))), (0, .ref b), (1, .ref (zad E 0)), (2, .ref (zad E 262))]) C dL_law_1692 rfl (by decide) rfl ?_
                                                                            refine r_goto (tgt := 18) C dL_law_1695 (by decide) ?_
                                                                            refine r_L (L' := [(0, .ref b), (1, .ref (zad E 0)), (2, .ref (zad E 262)), (3, .int (zi (wr (s11913.1 + 6))))]) [1, 2, 3, 0] rfl ?_
                                                                            exact k11916 (wr (s11913.1 + 6), s11913.2.1, s11913.2.2) (IR_wr _)
                                                                          · refine r_bf c12379 ?_
                                                                            exact fun e => by cases e
                                                                        · refine r_bf c12372 ?_
                                                                          by_cases c12380 : (zand v11920 63 = 34)
                                                                          · refine r_bt c12380 ?_
                                                                            refine r_tswIn (kx := 34) (tgt := 1206) C (i32_IR _) dL_law_33 c12380 (by decide) (by decide) rfl (by decide) ?_
                                                                            refine r_aload_n (pc := 1206) (j := 1) C dL_law_1206 rfl rfl ?_
                                                                            refine r_bb ?_
                                                                            refine r_bd (fun q12382 e12383 => ?_)
                                                                            refine r_cV1 (pc := 1207) (k := 0) (As := []) (st := []) C (m_X11_widest  e12383) cal_X11_widest cl_X11 kd_0 ln_0 q_1399 dL_law_1207 rfl rfl (Nat.le_of_ble_eq_true rfl) (Nat.le_of_ble_eq_true rfl) (Nat.le_of_ble_eq_true rfl) (Nat.le_of_ble_eq_true rfl) (Nat.le_of_ble_eq_true rfl) (fun h12381 => ?_)
                                                                            refine r_aload_n (pc := 1210) (j := 2) C dL_law_1210 rfl rfl ?_
                                                                            refine r_bb ?_
                                                                            refine r_bd (fun q12385 e12386 => ?_)
                                                                            refine r_cV1 (pc := 1211) (k := 262) (As := []) (st := [.int (zi q12382)]) C (m_X12_widest  e12386) cal_X12_widest cl_X12 kd_262 ln_262 q_2285 dL_law_1211 rfl rfl (Nat.le_of_ble_eq_true rfl) (Nat.le_of_ble_eq_true rfl) (Nat.le_of_ble_eq_true rfl) (Nat.le_of_ble_eq_true rfl) (Nat.le_of_ble_eq_true rfl) (fun h12384 => ?_)
                                                                            refine r_icmp_eq (tgt := 1692) C h12381 h12384 dL_law_1214 (by decide) (fun c12387 => ?_) (fun c12387 => ?_)
                                                                            · refine r_bt c12387 ?_
                                                                              refine r_iinc (j := 3) (L' := [(3, .int (zi (wr (s11913.1 + 6)))), (0, .ref b), (1, .ref (zad E 0)), (2, .ref (zad E 262))]) C dL_law_1692 rfl (by decide) rfl ?_
                                                                              refine r_goto (tgt := 18) C dL_law_1695 (by decide) ?_
                                                                              refine r_L (L' := [(0, .ref b), (1, .ref (zad E 0)), (2, .ref (zad E 262)), (3, .int (zi (wr (s11913.1 + 6))))]) [1, 2, 3, 0] rfl ?_
                                                                              exact k11916 (wr (s11913.1 + 6), s11913.2.1, s11913.2.2) (IR_wr _)
                                                                            · refine r_bf c12387 ?_
                                                                              exact fun e => by cases e
                                                                          · refine r_bf c12380 ?_
                                                                            by_cases c12388 : (zand v11920 63 = 35)
                                                                            · refine r_bt c12388 ?_
                                                                              refine r_tswIn (kx := 35) (tgt := 1219) C (i32_IR _) dL_law_33 c12388 (by decide) (by decide) rfl (by decide) ?_
                                                                              refine r_aload_n (pc := 1219) (j := 1) C dL_law_1219 rfl rfl ?_
                                                                              refine r_bb ?_
                                                                              refine r_bd (fun q12390 e12391 => ?_)
                                                                              refine r_cV1 (pc := 1220) (k := 0) (As := []) (st := []) C (m_X11_highest  e12391) cal_X11_highest cl_X11 kd_0 ln_0 q_1403 dL_law_1220 rfl rfl (Nat.le_of_ble_eq_true rfl) (Nat.le_of_ble_eq_true rfl) (Nat.le_of_ble_eq_true rfl) (Nat.le_of_ble_eq_true rfl) (Nat.le_of_ble_eq_true rfl) (fun h12389 => ?_)
                                                                              refine r_aload_n (pc := 1223) (j := 2) C dL_law_1223 rfl rfl ?_
                                                                              refine r_bb ?_
                                                                              refine r_bd (fun q12393 e12394 => ?_)
                                                                              refine r_cV1 (pc := 1224) (k := 262) (As := []) (st := [.int (zi q12390.1)]) C (m_X12_highest  e12394) cal_X12_highest cl_X12 kd_262 ln_262 q_2289 dL_law_1224 rfl rfl (Nat.le_of_ble_eq_true rfl) (Nat.le_of_ble_eq_true rfl) (Nat.le_of_ble_eq_true rfl) (Nat.le_of_ble_eq_true rfl) (Nat.le_of_ble_eq_true rfl) (fun h12392 => ?_)
                                                                              refine r_icmp_eq (tgt := 1692) C h12389 h12392 dL_law_1227 (by decide) (fun c12395 => ?_) (fun c12395 => ?_)
                                                                              · refine r_bt c12395 ?_
                                                                                refine r_iinc (j := 3) (L' := [(3, .int (zi (wr (s11913.1 + 6)))), (0, .ref b), (1, .ref (zad E 0)), (2, .ref (zad E 262))]) C dL_law_1692 rfl (by decide) rfl ?_
                                                                                refine r_goto (tgt := 18) C dL_law_1695 (by decide) ?_
                                                                                refine r_L (L' := [(0, .ref b), (1, .ref (zad E 0)), (2, .ref (zad E 262)), (3, .int (zi (wr (s11913.1 + 6))))]) [1, 2, 3, 0] rfl ?_
                                                                                exact k11916 (wr (s11913.1 + 6), q12390.2, q12393.2) (IR_wr _)
                                                                              · refine r_bf c12395 ?_
                                                                                exact fun e => by cases e
                                                                            · refine r_bf c12388 ?_
                                                                              by_cases c12396 : (zand v11920 63 = 36)
                                                                              · refine r_bt c12396 ?_
                                                                                refine r_tswIn (kx := 36) (tgt := 1232) C (i32_IR _) dL_law_33 c12396 (by decide) (by decide) rfl (by decide) ?_
                                                                                refine r_aload_n (pc := 1232) (j := 1) C dL_law_1232 rfl rfl ?_
                                                                                refine r_aload_n (pc := 1233) (j := 0) C dL_law_1233 rfl rfl ?_
                                                                                refine r_iload_n (pc := 1234) (j := 3) C dL_law_1234 rfl rfl ?_
                                                                                refine r_iconst (v := 1) C dL_law_1235 (by decide) ?_
                                                                                refine r_iadd C dL_law_1236 ?_
                                                                                refine r_bb ?_
                                                                                refine r_sld C hX (IR_wr _) dL_law_1237 (fun v12397 h12398 => ?_)
                                                                                refine r_bb ?_
                                                                                refine r_bd (fun q12400 e12401 => ?_)
                                                                                refine r_cV1 (pc := 1238) (k := 0) (As := [.int (zi v12397)]) (st := []) C (m_X11_stays (a1 := v12397) h12398 e12401) cal_X11_stays cl_X11 kd_0 ln_0 q_1407 dL_law_1238 rfl rfl (Nat.le_of_ble_eq_true rfl) (Nat.le_of_ble_eq_true rfl) (Nat.le_of_ble_eq_true rfl) (Nat.le_of_ble_eq_true rfl) (Nat.le_of_ble_eq_true rfl) (fun h12399 => ?_)
                                                                                refine r_aload_n (pc := 1241) (j := 2) C dL_law_1241 rfl rfl ?_
                                                                                refine r_aload_n (pc := 1242) (j := 0) C dL_law_1242 rfl rfl ?_
                                                                                refine r_iload_n (pc := 1243) (j := 3) C dL_law_1243 rfl rfl ?_
                                                                                refine r_iconst (v := 1) C dL_law_1244 (by decide) ?_
                                                                                refine r_iadd C dL_law_1245 ?_
                                                                                refine r_bb ?_
                                                                                refine r_sld C hX (IR_wr _) dL_law_1246 (fun v12402 h12403 => ?_)
                                                                                refine r_bb ?_
                                                                                refine r_bd (fun q12405 e12406 => ?_)
                                                                                refine r_cV1 (pc := 1247) (k := 262) (As := [.int (zi v12402)]) (st := [.int (zi q12400)]) C (m_X12_stays (a1 := v12402) h12403 e12406) cal_X12_stays cl_X12 kd_262 ln_262 q_2297 dL_law_1247 rfl rfl (Nat.le_of_ble_eq_true rfl) (Nat.le_of_ble_eq_true rfl) (Nat.le_of_ble_eq_true rfl) (Nat.le_of_ble_eq_true rfl) (Nat.le_of_ble_eq_true rfl) (fun h12404 => ?_)
                                                                                refine r_icmp_eq (tgt := 1692) C h12399 h12404 dL_law_1250 (by decide) (fun c12407 => ?_) (fun c12407 => ?_)
                                                                                · refine r_bt c12407 ?_
                                                                                  refine r_iinc (j := 3) (L' := [(3, .int (zi (wr (s11913.1 + 6)))), (0, .ref b), (1, .ref (zad E 0)), (2, .ref (zad E 262))]) C dL_law_1692 rfl (by decide) rfl ?_
                                                                                  refine r_goto (tgt := 18) C dL_law_1695 (by decide) ?_
                                                                                  refine r_L (L' := [(0, .ref b), (1, .ref (zad E 0)), (2, .ref (zad E 262)), (3, .int (zi (wr (s11913.1 + 6))))]) [1, 2, 3, 0] rfl ?_
                                                                                  exact k11916 (wr (s11913.1 + 6), s11913.2.1, s11913.2.2) (IR_wr _)
                                                                                · refine r_bf c12407 ?_
                                                                                  exact fun e => by cases e
                                                                              · refine r_bf c12396 ?_
                                                                                by_cases c12408 : (zand v11920 63 = 37)
                                                                                · refine r_bt c12408 ?_
                                                                                  refine r_tswIn (kx := 37) (tgt := 1255) C (i32_IR _) dL_law_33 c12408 (by decide) (by decide) rfl (by decide) ?_
                                                                                  refine r_aload_n (pc := 1255) (j := 1) C dL_law_1255 rfl rfl ?_
                                                                                  refine r_aload_n (pc := 1256) (j := 0) C dL_law_1256 rfl rfl ?_
                                                                                  refine r_iload_n (pc := 1257) (j := 3) C dL_law_1257 rfl rfl ?_
                                                                                  refine r_iconst (v := 1) C dL_law_1258 (by decide) ?_
                                                                                  refine r_iadd C dL_law_1259 ?_
                                                                                  refine r_bb ?_
                                                                                  refine r_sld C hX (IR_wr _) dL_law_1260 (fun v12409 h12410 => ?_)
                                                                                  refine r_aload_n (pc := 1261) (j := 0) C dL_law_1261 rfl rfl ?_
                                                                                  refine r_iload_n (pc := 1262) (j := 3) C dL_law_1262 rfl rfl ?_
                                                                                  refine r_iconst (v := 2) C dL_law_1263 (by decide) ?_
                                                                                  refine r_iadd C dL_law_1264 ?_
                                                                                  refine r_bb ?_
                                                                                  refine r_sld C hX (IR_wr _) dL_law_1265 (fun v12411 h12412 => ?_)
                                                                                  refine r_bb ?_
                                                                                  refine r_bd (fun q12414 e12415 => ?_)
                                                                                  refine r_cV1 (pc := 1266) (k := 0) (As := [.int (zi v12409), .int (zi v12411)]) (st := []) C (m_X11_sight (a1 := v12409) (a2 := v12411) h12410 h12412 e12415) cal_X11_sight cl_X11 kd_0 ln_0 q_1411 dL_law_1266 rfl rfl (Nat.le_of_ble_eq_true rfl) (Nat.le_of_ble_eq_true rfl) (Nat.le_of_ble_eq_true rfl) (Nat.le_of_ble_eq_true rfl) (Nat.le_of_ble_eq_true rfl) (fun h12413 => ?_)
                                                                                  refine r_aload_n (pc := 1269) (j := 2) C dL_law_1269 rfl rfl ?_
                                                                                  refine r_aload_n (pc := 1270) (j := 0) C dL_law_1270 rfl rfl ?_
                                                                                  refine r_iload_n (pc := 1271) (j := 3) C dL_law_1271 rfl rfl ?_
                                                                                  refine r_iconst (v := 1) C dL_law_1272 (by decide) ?_
                                                                                  refine r_iadd C dL_law_1273 ?_
                                                                                  refine r_bb ?_
                                                                                  refine r_sld C hX (IR_wr _) dL_law_1274 (fun v12416 h12417 => ?_)
                                                                                  refine r_aload_n (pc := 1275) (j := 0) C dL_law_1275 rfl rfl ?_
                                                                                  refine r_iload_n (pc := 1276) (j := 3) C dL_law_1276 rfl rfl ?_
                                                                                  refine r_iconst (v := 2) C dL_law_1277 (by decide) ?_
                                                                                  refine r_iadd C dL_law_1278 ?_
                                                                                  refine r_bb ?_
                                                                                  refine r_sld C hX (IR_wr _) dL_law_1279 (fun v12418 h12419 => ?_)
                                                                                  refine r_bb ?_
                                                                                  refine r_bd (fun q12421 e12422 => ?_)
                                                                                  refine r_cV1 (pc := 1280) (k := 262) (As := [.int (zi v12416), .int (zi v12418)]) (st := [.int (zi q12414.1)]) C (m_X12_sight (a1 := v12416) (a2 := v12418) h12417 h12419 e12422) cal_X12_sight cl_X12 kd_262 ln_262 q_2301 dL_law_1280 rfl rfl (Nat.le_of_ble_eq_true rfl) (Nat.le_of_ble_eq_true rfl) (Nat.le_of_ble_eq_true rfl) (Nat.le_of_ble_eq_true rfl) (Nat.le_of_ble_eq_true rfl) (fun h12420 => ?_)
                                                                                  refine r_icmp_eq (tgt := 1692) C h12413 h12420 dL_law_1283 (by decide) (fun c12423 => ?_) (fun c12423 => ?_)
                                                                                  · refine r_bt c12423 ?_
                                                                                    refine r_iinc (j := 3) (L' := [(3, .int (zi (wr (s11913.1 + 6)))), (0, .ref b), (1, .ref (zad E 0)), (2, .ref (zad E 262))]) C dL_law_1692 rfl (by decide) rfl ?_
                                                                                    refine r_goto (tgt := 18) C dL_law_1695 (by decide) ?_
                                                                                    refine r_L (L' := [(0, .ref b), (1, .ref (zad E 0)), (2, .ref (zad E 262)), (3, .int (zi (wr (s11913.1 + 6))))]) [1, 2, 3, 0] rfl ?_
                                                                                    exact k11916 (wr (s11913.1 + 6), q12414.2, q12421.2) (IR_wr _)
                                                                                  · refine r_bf c12423 ?_
                                                                                    exact fun e => by cases e
                                                                                · refine r_bf c12408 ?_
                                                                                  by_cases c12424 : (zand v11920 63 = 38)
                                                                                  · refine r_bt c12424 ?_
                                                                                    refine r_tswIn (kx := 38) (tgt := 1288) C (i32_IR _) dL_law_33 c12424 (by decide) (by decide) rfl (by decide) ?_
                                                                                    refine r_aload_n (pc := 1288) (j := 1) C dL_law_1288 rfl rfl ?_
                                                                                    refine r_bb ?_
                                                                                    refine r_bd (fun q12426 e12427 => ?_)
                                                                                    refine r_cV1 (pc := 1289) (k := 0) (As := []) (st := []) C (m_X11_trapezes  e12427) cal_X11_trapezes cl_X11 kd_0 ln_0 q_1419 dL_law_1289 rfl rfl (Nat.le_of_ble_eq_true rfl) (Nat.le_of_ble_eq_true rfl) (Nat.le_of_ble_eq_true rfl) (Nat.le_of_ble_eq_true rfl) (Nat.le_of_ble_eq_true rfl) (fun h12425 => ?_)
                                                                                    refine r_aload_n (pc := 1292) (j := 2) C dL_law_1292 rfl rfl ?_
                                                                                    refine r_bb ?_
                                                                                    refine r_bd (fun q12429 e12430 => ?_)
                                                                                    refine r_cV1 (pc := 1293) (k := 262) (As := []) (st := [.int (zi q12426.1)]) C (m_X12_trapezes  e12430) cal_X12_trapezes cl_X12 kd_262 ln_262 q_2309 dL_law_1293 rfl rfl (Nat.le_of_ble_eq_true rfl) (Nat.le_of_ble_eq_true rfl) (Nat.le_of_ble_eq_true rfl) (Nat.le_of_ble_eq_true rfl) (Nat.le_of_ble_eq_true rfl) (fun h12428 => ?_)
                                                                                    refine r_icmp_eq (tgt := 1692) C h12425 h12428 dL_law_1296 (by decide) (fun c12431 => ?_) (fun c12431 => ?_)
                                                                                    · refine r_bt c12431 ?_
                                                                                      refine r_iinc (j := 3) (L' := [(3, .int (zi (wr (s11913.1 + 6)))), (0, .ref b), (1, .ref (zad E 0)), (2, .ref (zad E 262))]) C dL_law_1692 rfl (by decide) rfl ?_
                                                                                      refine r_goto (tgt := 18) C dL_law_1695 (by decide) ?_
                                                                                      refine r_L (L' := [(0, .ref b), (1, .ref (zad E 0)), (2, .ref (zad E 262)), (3, .int (zi (wr (s11913.1 + 6))))]) [1, 2, 3, 0] rfl ?_
                                                                                      exact k11916 (wr (s11913.1 + 6), q12426.2, q12429.2) (IR_wr _)
                                                                                    · refine r_bf c12431 ?_
                                                                                      exact fun e => by cases e
                                                                                  · refine r_bf c12424 ?_
                                                                                    by_cases c12432 : (zand v11920 63 = 39)
                                                                                    · refine r_bt c12432 ?_
                                                                                      refine r_tswIn (kx := 39) (tgt := 1301) C (i32_IR _) dL_law_33 c12432 (by decide) (by decide) rfl (by decide) ?_
                                                                                      refine r_aload_n (pc := 1301) (j := 1) C dL_law_1301 rfl rfl ?_
                                                                                      refine r_aload_n (pc := 1302) (j := 0) C dL_law_1302 rfl rfl ?_
                                                                                      refine r_iload_n (pc := 1303) (j := 3) C dL_law_1303 rfl rfl ?_
                                                                                      refine r_iconst (v := 1) C dL_law_1304 (by decide) ?_
                                                                                      refine r_iadd C dL_law_1305 ?_
                                                                                      refine r_bb ?_
                                                                                      refine r_sld C hX (IR_wr _) dL_law_1306 (fun v12433 h12434 => ?_)
                                                                                      refine r_bb ?_
                                                                                      refine r_bd (fun q12436 e12437 => ?_)
                                                                                      refine r_cV1 (pc := 1307) (k := 0) (As := [.int (zi v12433)]) (st := []) C (m_X11_area (a1 := v12433) h12434 e12437) cal_X11_area cl_X11 kd_0 ln_0 q_1438 dL_law_1307 rfl rfl (Nat.le_of_ble_eq_true rfl) (Nat.le_of_ble_eq_true rfl) (Nat.le_of_ble_eq_true rfl) (Nat.le_of_ble_eq_true rfl) (Nat.le_of_ble_eq_true rfl) (fun h12435 => ?_)
                                                                                      refine r_aload_n (pc := 1310) (j := 2) C dL_law_1310 rfl rfl ?_
                                                                                      refine r_aload_n (pc := 1311) (j := 0) C dL_law_1311 rfl rfl ?_
                                                                                      refine r_iload_n (pc := 1312) (j := 3) C dL_law_1312 rfl rfl ?_
                                                                                      refine r_iconst (v := 1) C dL_law_1313 (by decide) ?_
                                                                                      refine r_iadd C dL_law_1314 ?_
                                                                                      refine r_bb ?_
                                                                                      refine r_sld C hX (IR_wr _) dL_law_1315 (fun v12438 h12439 => ?_)
                                                                                      refine r_bb ?_
                                                                                      refine r_bd (fun q12441 e12442 => ?_)
                                                                                      refine r_cV1 (pc := 1316) (k := 262) (As := [.int (zi v12438)]) (st := [.int (zi q12436.1)]) C (m_X12_area (a1 := v12438) h12439 e12442) cal_X12_area cl_X12 kd_262 ln_262 q_2317 dL_law_1316 rfl rfl (Nat.le_of_ble_eq_true rfl) (Nat.le_of_ble_eq_true rfl) (Nat.le_of_ble_eq_true rfl) (Nat.le_of_ble_eq_true rfl) (Nat.le_of_ble_eq_true rfl) (fun h12440 => ?_)
                                                                                      refine r_icmp_eq (tgt := 1692) C h12435 h12440 dL_law_1319 (by decide) (fun c12443 => ?_) (fun c12443 => ?_)
                                                                                      · refine r_bt c12443 ?_
                                                                                        refine r_iinc (j := 3) (L' := [(3, .int (zi (wr (s11913.1 + 6)))), (0, .ref b), (1, .ref (zad E 0)), (2, .ref (zad E 262))]) C dL_law_1692 rfl (by decide) rfl ?_
                                                                                        refine r_goto (tgt := 18) C dL_law_1695 (by decide) ?_
                                                                                        refine r_L (L' := [(0, .ref b), (1, .ref (zad E 0)), (2, .ref (zad E 262)), (3, .int (zi (wr (s11913.1 + 6))))]) [1, 2, 3, 0] rfl ?_
                                                                                        exact k11916 (wr (s11913.1 + 6), q12436.2, q12441.2) (IR_wr _)
                                                                                      · refine r_bf c12443 ?_
                                                                                        exact fun e => by cases e
                                                                                    · refine r_bf c12432 ?_
                                                                                      by_cases c12444 : (zand v11920 63 = 40)
                                                                                      · refine r_bt c12444 ?_
                                                                                        refine r_tswIn (kx := 40) (tgt := 1324) C (i32_IR _) dL_law_33 c12444 (by decide) (by decide) rfl (by decide) ?_
                                                                                        refine r_aload_n (pc := 1324) (j := 1) C dL_law_1324 rfl rfl ?_
                                                                                        refine r_bb ?_
                                                                                        refine r_bd (fun q12446 e12447 => ?_)
                                                                                        refine r_cV1 (pc := 1325) (k := 0) (As := []) (st := []) C (m_X11_largest  e12447) cal_X11_largest cl_X11 kd_0 ln_0 q_1461 dL_law_1325 rfl rfl (Nat.le_of_ble_eq_true rfl) (Nat.le_of_ble_eq_true rfl) (Nat.le_of_ble_eq_true rfl) (Nat.le_of_ble_eq_true rfl) (Nat.le_of_ble_eq_true rfl) (fun h12445 => ?_)
                                                                                        refine r_aload_n (pc := 1328) (j := 2) C dL_law_1328 rfl rfl ?_
                                                                                        refine r_bb ?_
                                                                                        refine r_bd (fun q12449 e12450 => ?_)
                                                                                        refine r_cV1 (pc := 1329) (k := 262) (As := []) (st := [.int (zi q12446.1)]) C (m_X12_largest  e12450) cal_X12_largest cl_X12 kd_262 ln_262 q_2325 dL_law_1329 rfl rfl (Nat.le_of_ble_eq_true rfl) (Nat.le_of_ble_eq_true rfl) (Nat.le_of_ble_eq_true rfl) (Nat.le_of_ble_eq_true rfl) (Nat.le_of_ble_eq_true rfl) (fun h12448 => ?_)
                                                                                        refine r_icmp_eq (tgt := 1692) C h12445 h12448 dL_law_1332 (by decide) (fun c12451 => ?_) (fun c12451 => ?_)
                                                                                        · refine r_bt c12451 ?_
                                                                                          refine r_iinc (j := 3) (L' := [(3, .int (zi (wr (s11913.1 + 6)))), (0, .ref b), (1, .ref (zad E 0)), (2, .ref (zad E 262))]) C dL_law_1692 rfl (by decide) rfl ?_
                                                                                          refine r_goto (tgt := 18) C dL_law_1695 (by decide) ?_
                                                                                          refine r_L (L' := [(0, .ref b), (1, .ref (zad E 0)), (2, .ref (zad E 262)), (3, .int (zi (wr (s11913.1 + 6))))]) [1, 2, 3, 0] rfl ?_
                                                                                          exact k11916 (wr (s11913.1 + 6), q12446.2, q12449.2) (IR_wr _)
                                                                                        · refine r_bf c12451 ?_
                                                                                          exact fun e => by cases e
                                                                                      · refine r_bf c12444 ?_
                                                                                        by_cases c12452 : (zand v11920 63 = 41)
                                                                                        · refine r_bt c12452 ?_
                                                                                          refine r_tswIn (kx := 41) (tgt := 1337) C (i32_IR _) dL_law_33 c12452 (by decide) (by decide) rfl (by decide) ?_
                                                                                          refine r_aload_n (pc := 1337) (j := 1) C dL_law_1337 rfl rfl ?_
                                                                                          refine r_aload_n (pc := 1338) (j := 0) C dL_law_1338 rfl rfl ?_
                                                                                          refine r_iload_n (pc := 1339) (j := 3) C dL_law_1339 rfl rfl ?_
                                                                                          refine r_iconst (v := 1) C dL_law_1340 (by decide) ?_
                                                                                          refine r_iadd C dL_law_1341 ?_
                                                                                          refine r_bb ?_
                                                                                          refine r_sld C hX (IR_wr _) dL_law_1342 (fun v12453 h12454 => ?_)
                                                                                          refine r_bb ?_
                                                                                          refine r_bd (fun q12456 e12457 => ?_)
                                                                                          refine r_cV1 (pc := 1343) (k := 0) (As := [.int (zi v12453)]) (st := []) C (m_X11_hidden (a1 := v12453) h12454 e12457) cal_X11_hidden cl_X11 kd_0 ln_0 q_1465 dL_law_1343 rfl rfl (Nat.le_of_ble_eq_true rfl) (Nat.le_of_ble_eq_true rfl) (Nat.le_of_ble_eq_true rfl) (Nat.le_of_ble_eq_true rfl) (Nat.le_of_ble_eq_true rfl) (fun h12455 => ?_)
                                                                                          refine r_aload_n (pc := 1346) (j := 2) C dL_law_1346 rfl rfl ?_
                                                                                          refine r_aload_n (pc := 1347) (j := 0) C dL_law_1347 rfl rfl ?_
                                                                                          refine r_iload_n (pc := 1348) (j := 3) C dL_law_1348 rfl rfl ?_
                                                                                          refine r_iconst (v := 1) C dL_law_1349 (by decide) ?_
                                                                                          refine r_iadd C dL_law_1350 ?_
                                                                                          refine r_bb ?_
                                                                                          refine r_sld C hX (IR_wr _) dL_law_1351 (fun v12458 h12459 => ?_)
                                                                                          refine r_bb ?_
                                                                                          refine r_bd (fun q12461 e12462 => ?_)
                                                                                          refine r_cV1 (pc := 1352) (k := 262) (As := [.int (zi v12458)]) (st := [.int (zi q12456.1)]) C (m_X12_hidden (a1 := v12458) h12459 e12462) cal_X12_hidden cl_X12 kd_262 ln_262 q_2329 dL_law_1352 rfl rfl (Nat.le_of_ble_eq_true rfl) (Nat.le_of_ble_eq_true rfl) (Nat.le_of_ble_eq_true rfl) (Nat.le_of_ble_eq_true rfl) (Nat.le_of_ble_eq_true rfl) (fun h12460 => ?_)
                                                                                          refine r_icmp_eq (tgt := 1692) C h12455 h12460 dL_law_1355 (by decide) (fun c12463 => ?_) (fun c12463 => ?_)
                                                                                          · refine r_bt c12463 ?_
                                                                                            refine r_iinc (j := 3) (L' := [(3, .int (zi (wr (s11913.1 + 6)))), (0, .ref b), (1, .ref (zad E 0)), (2, .ref (zad E 262))]) C dL_law_1692 rfl (by decide) rfl ?_
                                                                                            refine r_goto (tgt := 18) C dL_law_1695 (by decide) ?_
                                                                                            refine r_L (L' := [(0, .ref b), (1, .ref (zad E 0)), (2, .ref (zad E 262)), (3, .int (zi (wr (s11913.1 + 6))))]) [1, 2, 3, 0] rfl ?_
                                                                                            exact k11916 (wr (s11913.1 + 6), q12456.2, s11913.2.2) (IR_wr _)
                                                                                          · refine r_bf c12463 ?_
                                                                                            exact fun e => by cases e
                                                                                        · refine r_bf c12452 ?_
                                                                                          by_cases c12464 : (zand v11920 63 = 42)
                                                                                          · refine r_bt c12464 ?_
                                                                                            refine r_tswIn (kx := 42) (tgt := 1360) C (i32_IR _) dL_law_33 c12464 (by decide) (by decide) rfl (by decide) ?_
                                                                                            refine r_aload_n (pc := 1360) (j := 1) C dL_law_1360 rfl rfl ?_
                                                                                            refine r_cV1 (pc := 1361) (k := 0) (As := []) (st := []) C (m_X11_next  rfl) cal_X11_next cl_X11 kd_0 ln_0 q_1060 dL_law_1361 rfl rfl (Nat.le_of_ble_eq_true rfl) (Nat.le_of_ble_eq_true rfl) (Nat.le_of_ble_eq_true rfl) (Nat.le_of_ble_eq_true rfl) (Nat.le_of_ble_eq_true rfl) (fun h12465 => ?_)
                                                                                            refine r_aload_n (pc := 1364) (j := 2) C dL_law_1364 rfl rfl ?_
                                                                                            refine r_bb ?_
                                                                                            refine r_bd (fun q12467 e12468 => ?_)
                                                                                            refine r_cV1 (pc := 1365) (k := 262) (As := []) (st := [.int (zi (f_X11_next s11913.2.1))]) C (m_X12_next  e12468) cal_X12_next cl_X12 kd_262 ln_262 q_2333 dL_law_1365 rfl rfl (Nat.le_of_ble_eq_true rfl) (Nat.le_of_ble_eq_true rfl) (Nat.le_of_ble_eq_true rfl) (Nat.le_of_ble_eq_true rfl) (Nat.le_of_ble_eq_true rfl) (fun h12466 => ?_)
                                                                                            refine r_icmp_eq (tgt := 1692) C h12465 h12466 dL_law_1368 (by decide) (fun c12469 => ?_) (fun c12469 => ?_)
                                                                                            · refine r_bt c12469 ?_
                                                                                              refine r_iinc (j := 3) (L' := [(3, .int (zi (wr (s11913.1 + 6)))), (0, .ref b), (1, .ref (zad E 0)), (2, .ref (zad E 262))]) C dL_law_1692 rfl (by decide) rfl ?_
                                                                                              refine r_goto (tgt := 18) C dL_law_1695 (by decide) ?_
                                                                                              refine r_L (L' := [(0, .ref b), (1, .ref (zad E 0)), (2, .ref (zad E 262)), (3, .int (zi (wr (s11913.1 + 6))))]) [1, 2, 3, 0] rfl ?_
                                                                                              exact k11916 (wr (s11913.1 + 6), s11913.2.1, s11913.2.2) (IR_wr _)
                                                                                            · refine r_bf c12469 ?_
                                                                                              exact fun e => by cases e
                                                                                          · refine r_bf c12464 ?_
                                                                                            by_cases c12470 : (zand v11920 63 = 43)
                                                                                            · refine r_bt c12470 ?_
                                                                                              refine r_tswIn (kx := 43) (tgt := 1373) C (i32_IR _) dL_law_33 c12470 (by decide) (by decide) rfl (by decide) ?_
                                                                                              refine r_aload_n (pc := 1373) (j := 1) C dL_law_1373 rfl rfl ?_
                                                                                              refine r_cV1 (pc := 1374) (k := 0) (As := []) (st := []) C (m_X11_events  rfl) cal_X11_events cl_X11 kd_0 ln_0 q_1070 dL_law_1374 rfl rfl (Nat.le_of_ble_eq_true rfl) (Nat.le_of_ble_eq_true rfl) (Nat.le_of_ble_eq_true rfl) (Nat.le_of_ble_eq_true rfl) (Nat.le_of_ble_eq_true rfl) (fun h12471 => ?_)
                                                                                              refine r_aload_n (pc := 1377) (j := 2) C dL_law_1377 rfl rfl ?_
                                                                                              refine r_cV1 (pc := 1378) (k := 262) (As := []) (st := [.int (zi (f_X11_events s11913.2.1))]) C (m_X12_events  rfl) cal_X12_events cl_X12 kd_262 ln_262 q_2337 dL_law_1378 rfl rfl (Nat.le_of_ble_eq_true rfl) (Nat.le_of_ble_eq_true rfl) (Nat.le_of_ble_eq_true rfl) (Nat.le_of_ble_eq_true rfl) (Nat.le_of_ble_eq_true rfl) (fun h12472 => ?_)
                                                                                              refine r_icmp_eq (tgt := 1692) C h12471 h12472 dL_law_1381 (by decide) (fun c12473 => ?_) (fun c12473 => ?_)
                                                                                              · refine r_bt c12473 ?_
                                                                                                refine r_iinc (j := 3) (L' := [(3, .int (zi (wr (s11913.1 + 6)))), (0, .ref b), (1, .ref (zad E 0)), (2, .ref (zad E 262))]) C dL_law_1692 rfl (by decide) rfl ?_
                                                                                                refine r_goto (tgt := 18) C dL_law_1695 (by decide) ?_
                                                                                                refine r_L (L' := [(0, .ref b), (1, .ref (zad E 0)), (2, .ref (zad E 262)), (3, .int (zi (wr (s11913.1 + 6))))]) [1, 2, 3, 0] rfl ?_
                                                                                                exact k11916 (wr (s11913.1 + 6), s11913.2.1, s11913.2.2) (IR_wr _)
                                                                                              · refine r_bf c12473 ?_
                                                                                                exact fun e => by cases e
                                                                                            · refine r_bf c12470 ?_
                                                                                              by_cases c12474 : (zand v11920 63 = 44)
                                                                                              · refine r_bt c12474 ?_
                                                                                                refine r_tswIn (kx := 44) (tgt := 1386) C (i32_IR _) dL_law_33 c12474 (by decide) (by decide) rfl (by decide) ?_
                                                                                                refine r_aload_n (pc := 1386) (j := 1) C dL_law_1386 rfl rfl ?_
                                                                                                refine r_aload_n (pc := 1387) (j := 0) C dL_law_1387 rfl rfl ?_
                                                                                                refine r_iload_n (pc := 1388) (j := 3) C dL_law_1388 rfl rfl ?_
                                                                                                refine r_iconst (v := 1) C dL_law_1389 (by decide) ?_
                                                                                                refine r_iadd C dL_law_1390 ?_
                                                                                                refine r_bb ?_
                                                                                                refine r_sld C hX (IR_wr _) dL_law_1391 (fun v12475 h12476 => ?_)
                                                                                                refine r_cV1 (pc := 1392) (k := 0) (As := [.int (zi v12475)]) (st := []) C (m_X11_lies (a1 := v12475) h12476 rfl) cal_X11_lies cl_X11 kd_0 ln_0 q_1285 dL_law_1392 rfl rfl (Nat.le_of_ble_eq_true rfl) (Nat.le_of_ble_eq_true rfl) (Nat.le_of_ble_eq_true rfl) (Nat.le_of_ble_eq_true rfl) (Nat.le_of_ble_eq_true rfl) (fun h12477 => ?_)
                                                                                                refine r_aload_n (pc := 1395) (j := 2) C dL_law_1395 rfl rfl ?_
                                                                                                refine r_aload_n (pc := 1396) (j := 0) C dL_law_1396 rfl rfl ?_
                                                                                                refine r_iload_n (pc := 1397) (j := 3) C dL_law_1397 rfl rfl ?_
                                                                                                refine r_iconst (v := 1) C dL_law_1398 (by decide) ?_
                                                                                                refine r_iadd C dL_law_1399 ?_
                                                                                                refine r_bb ?_
                                                                                                refine r_sld C hX (IR_wr _) dL_law_1400 (fun v12478 h12479 => ?_)
                                                                                                refine r_bb ?_
                                                                                                refine r_bd (fun q12481 e12482 => ?_)
                                                                                                refine r_cV1 (pc := 1401) (k := 262) (As := [.int (zi v12478)]) (st := [.int (zi (f_X11_lies v12475 s11913.2.1))]) C (m_X12_lies (a1 := v12478) h12479 e12482) cal_X12_lies cl_X12 kd_262 ln_262 q_2341 dL_law_1401 rfl rfl (Nat.le_of_ble_eq_true rfl) (Nat.le_of_ble_eq_true rfl) (Nat.le_of_ble_eq_true rfl) (Nat.le_of_ble_eq_true rfl) (Nat.le_of_ble_eq_true rfl) (fun h12480 => ?_)
                                                                                                refine r_icmp_eq (tgt := 1692) C h12477 h12480 dL_law_1404 (by decide) (fun c12483 => ?_) (fun c12483 => ?_)
                                                                                                · refine r_bt c12483 ?_
                                                                                                  refine r_iinc (j := 3) (L' := [(3, .int (zi (wr (s11913.1 + 6)))), (0, .ref b), (1, .ref (zad E 0)), (2, .ref (zad E 262))]) C dL_law_1692 rfl (by decide) rfl ?_
                                                                                                  refine r_goto (tgt := 18) C dL_law_1695 (by decide) ?_
                                                                                                  refine r_L (L' := [(0, .ref b), (1, .ref (zad E 0)), (2, .ref (zad E 262)), (3, .int (zi (wr (s11913.1 + 6))))]) [1, 2, 3, 0] rfl ?_
                                                                                                  exact k11916 (wr (s11913.1 + 6), s11913.2.1, s11913.2.2) (IR_wr _)
                                                                                                · refine r_bf c12483 ?_
                                                                                                  exact fun e => by cases e
                                                                                              · refine r_bf c12474 ?_
                                                                                                by_cases c12484 : (zand v11920 63 = 45)
                                                                                                · refine r_bt c12484 ?_
                                                                                                  refine r_tswIn (kx := 45) (tgt := 1409) C (i32_IR _) dL_law_33 c12484 (by decide) (by decide) rfl (by decide) ?_
                                                                                                  refine r_aload_n (pc := 1409) (j := 1) C dL_law_1409 rfl rfl ?_
                                                                                                  refine r_aload_n (pc := 1410) (j := 0) C dL_law_1410 rfl rfl ?_
                                                                                                  refine r_iload_n (pc := 1411) (j := 3) C dL_law_1411 rfl rfl ?_
                                                                                                  refine r_iconst (v := 1) C dL_law_1412 (by decide) ?_
                                                                                                  refine r_iadd C dL_law_1413 ?_
                                                                                                  refine r_bb ?_
                                                                                                  refine r_sld C hX (IR_wr _) dL_law_1414 (fun v12485 h12486 => ?_)
                                                                                                  refine r_aload_n (pc := 1415) (j := 0) C dL_law_1415 rfl rfl ?_
                                                                                                  refine r_iload_n (pc := 1416) (j := 3) C dL_law_1416 rfl rfl ?_
                                                                                                  refine r_iconst (v := 2) C dL_law_1417 (by decide) ?_
                                                                                                  refine r_iadd C dL_law_1418 ?_
                                                                                                  refine r_bb ?_
                                                                                                  refine r_sld C hX (IR_wr _) dL_law_1419 (fun v12487 h12488 => ?_)
                                                                                                  refine r_bj ?_
                                                                                                  refine r_join (fun q12489 : Int => BR q12489) (fun q12489 => s11913.2.1) (fun q12489 => s11913.2.2) (fun q12489 => [(0, .ref b), (1, .ref (zad E 0)), (2, .ref (zad E 262)), (3, .int (zi s11913.1))]) 1428 (fun q12489 => [.int (zi q12489), .int (zi v12485), .ref (zad E 0)]) (fun q12489 h12490 => ?_) (fun k12491 k12492 => ?_)
                                                                                                  · refine r_bj ?_
                                                                                                    refine r_jn (fun q12495 e12496 => ?_)
                                                                                                    refine r_cV1 (pc := 1428) (k := 0) (As := [.int (zi v12485), .int (zi q12489)]) (st := []) C (m_X11_seen (a1 := v12485) (a2 := q12489) h12486 h12490 e12496) cal_X11_seen cl_X11 kd_0 ln_0 q_1474 dL_law_1428 rfl rfl (Nat.le_of_ble_eq_true rfl) (Nat.le_of_ble_eq_true rfl) (Nat.le_of_ble_eq_true rfl) (Nat.le_of_ble_eq_true rfl) (Nat.le_of_ble_eq_true rfl) (fun h12494 => ?_)
                                                                                                    refine r_aload_n (pc := 1431) (j := 2) C dL_law_1431 rfl rfl ?_
                                                                                                    refine r_aload_n (pc := 1432) (j := 0) C dL_law_1432 rfl rfl ?_
                                                                                                    refine r_iload_n (pc := 1433) (j := 3) C dL_law_1433 rfl rfl ?_
                                                                                                    refine r_iconst (v := 1) C dL_law_1434 (by decide) ?_
                                                                                                    refine r_iadd C dL_law_1435 ?_
                                                                                                    refine r_bb ?_
                                                                                                    refine r_sld C hX (IR_wr _) dL_law_1436 (fun v12497 h12498 => ?_)
                                                                                                    refine r_aload_n (pc := 1437) (j := 0) C dL_law_1437 rfl rfl ?_
                                                                                                    refine r_iload_n (pc := 1438) (j := 3) C dL_law_1438 rfl rfl ?_
                                                                                                    refine r_iconst (v := 2) C dL_law_1439 (by decide) ?_
                                                                                                    refine r_iadd C dL_law_1440 ?_
                                                                                                    refine r_bb ?_
                                                                                                    refine r_sld C hX (IR_wr _) dL_law_1441 (fun v12499 h12500 => ?_)
                                                                                                    refine r_bj ?_
                                                                                                    refine r_join (fun q12501 : Int => BR q12501) (fun q12501 => q12495.2) (fun q12501 => s11913.2.2) (fun q12501 => [(0, .ref b), (1, .ref (zad E 0)), (2, .ref (zad E 262)), (3, .int (zi s11913.1))]) 1450 (fun q12501 => [.int (zi q12501), .int (zi v12497), .ref (zad E 262), .int (zi q12495.1)]) (fun q12501 h12502 => ?_) (fun k12503 k12504 => ?_)
                                                                                                    · refine r_bb ?_
                                                                                                      refine r_bd (fun q12507 e12508 => ?_)
                                                                                                      refine r_cV1 (pc := 1450) (k := 262) (As := [.int (zi v12497), .int (zi q12501)]) (st := [.int (zi q12495.1)]) C (m_X12_seen (a1 := v12497) (a2 := q12501) h12498 h12502 e12508) cal_X12_seen cl_X12 kd_262 ln_262 q_2345 dL_law_1450 rfl rfl (Nat.le_of_ble_eq_true rfl) (Nat.le_of_ble_eq_true rfl) (Nat.le_of_ble_eq_true rfl) (Nat.le_of_ble_eq_true rfl) (Nat.le_of_ble_eq_true rfl) (fun h12506 => ?_)
                                                                                                      refine r_icmp_eq (tgt := 1692) C h12494 h12506 dL_law_1453 (by decide) (fun c12509 => ?_) (fun c12509 => ?_)
                                                                                                      · refine r_bt c12509 ?_
                                                                                                        refine r_iinc (j := 3) (L' := [(3, .int (zi (wr (s11913.1 + 6)))), (0, .ref b), (1, .ref (zad E 0)), (2, .ref (zad E 262))]) C dL_law_1692 rfl (by decide) rfl ?_
                                                                                                        refine r_goto (tgt := 18) C dL_law_1695 (by decide) ?_
                                                                                                        refine r_L (L' := [(0, .ref b), (1, .ref (zad E 0)), (2, .ref (zad E 262)), (3, .int (zi (wr (s11913.1 + 6))))]) [1, 2, 3, 0] rfl ?_
                                                                                                        exact k11916 (wr (s11913.1 + 6), q12495.2, q12507.2) (IR_wr _)
                                                                                                      · refine r_bf c12509 ?_
                                                                                                        exact fun e => by cases e
                                                                                                    · refine r_if_eq (tgt := 1449) C h12500 dL_law_1442 (by decide) (fun c12505 => ?_) (fun c12505 => ?_)
                                                                                                      · refine r_jt c12505 ?_
                                                                                                        refine r_iconst (v := 0) C dL_law_1449 (by decide) ?_
                                                                                                        exact k12504 0 (BRd rfl)
                                                                                                      · refine r_jf c12505 ?_
                                                                                                        refine r_iconst (v := 1) C dL_law_1445 (by decide) ?_
                                                                                                        refine r_goto (tgt := 1450) C dL_law_1446 (by decide) ?_
                                                                                                        exact k12504 1 (BRd rfl)
                                                                                                  · refine r_if_eq (tgt := 1427) C h12488 dL_law_1420 (by decide) (fun c12493 => ?_) (fun c12493 => ?_)
                                                                                                    · refine r_jt c12493 ?_
                                                                                                      refine r_iconst (v := 0) C dL_law_1427 (by decide) ?_
                                                                                                      exact k12492 0 (BRd rfl)
                                                                                                    · refine r_jf c12493 ?_
                                                                                                      refine r_iconst (v := 1) C dL_law_1423 (by decide) ?_
                                                                                                      refine r_goto (tgt := 1428) C dL_law_1424 (by decide) ?_
                                                                                                      exact k12492 1 (BRd rfl)
                                                                                                · refine r_bf c12484 ?_
                                                                                                  by_cases c12510 : (zand v11920 63 = 46)
                                                                                                  · refine r_bt c12510 ?_
                                                                                                    refine r_tswIn (kx := 46) (tgt := 1458) C (i32_IR _) dL_law_33 c12510 (by decide) (by decide) rfl (by decide) ?_
                                                                                                    refine r_aload_n (pc := 1458) (j := 1) C dL_law_1458 rfl rfl ?_
                                                                                                    refine r_aload_n (pc := 1459) (j := 0) C dL_law_1459 rfl rfl ?_
                                                                                                    refine r_iload_n (pc := 1460) (j := 3) C dL_law_1460 rfl rfl ?_
                                                                                                    refine r_iconst (v := 1) C dL_law_1461 (by decide) ?_
                                                                                                    refine r_iadd C dL_law_1462 ?_
                                                                                                    refine r_bb ?_
                                                                                                    refine r_sld C hX (IR_wr _) dL_law_1463 (fun v12511 h12512 => ?_)
                                                                                                    refine r_bj ?_
                                                                                                    refine r_jn (fun q12514 e12515 => ?_)
                                                                                                    refine r_cV1 (pc := 1464) (k := 0) (As := [.int (zi v12511)]) (st := []) C (m_X11_untell (a1 := v12511) h12512 e12515) cal_X11_untell cl_X11 kd_0 ln_0 q_1484 dL_law_1464 rfl rfl (Nat.le_of_ble_eq_true rfl) (Nat.le_of_ble_eq_true rfl) (Nat.le_of_ble_eq_true rfl) (Nat.le_of_ble_eq_true rfl) (Nat.le_of_ble_eq_true rfl) (fun h12513 => ?_)
                                                                                                    refine r_aload_n (pc := 1467) (j := 2) C dL_law_1467 rfl rfl ?_
                                                                                                    refine r_aload_n (pc := 1468) (j := 0) C dL_law_1468 rfl rfl ?_
                                                                                                    refine r_iload_n (pc := 1469) (j := 3) C dL_law_1469 rfl rfl ?_
                                                                                                    refine r_iconst (v := 1) C dL_law_1470 (by decide) ?_
                                                                                                    refine r_iadd C dL_law_1471 ?_
                                                                                                    refine r_bb ?_
                                                                                                    refine r_sld C hX (IR_wr _) dL_law_1472 (fun v12516 h12517 => ?_)
                                                                                                    refine r_bb ?_
                                                                                                    refine r_bd (fun q12519 e12520 => ?_)
                                                                                                    refine r_cV1 (pc := 1473) (k := 262) (As := [.int (zi v12516)]) (st := [.int (zi q12514.1)]) C (m_X12_untell (a1 := v12516) h12517 e12520) cal_X12_untell cl_X12 kd_262 ln_262 q_2349 dL_law_1473 rfl rfl (Nat.le_of_ble_eq_true rfl) (Nat.le_of_ble_eq_true rfl) (Nat.le_of_ble_eq_true rfl) (Nat.le_of_ble_eq_true rfl) (Nat.le_of_ble_eq_true rfl) (fun h12518 => ?_)
                                                                                                    refine r_icmp_eq (tgt := 1692) C h12513.ir h12518.ir dL_law_1476 (by decide) (fun c12521 => ?_) (fun c12521 => ?_)
                                                                                                    · refine r_bt c12521 ?_
                                                                                                      refine r_iinc (j := 3) (L' := [(3, .int (zi (wr (s11913.1 + 6)))), (0, .ref b), (1, .ref (zad E 0)), (2, .ref (zad E 262))]) C dL_law_1692 rfl (by decide) rfl ?_
                                                                                                      refine r_goto (tgt := 18) C dL_law_1695 (by decide) ?_
                                                                                                      refine r_L (L' := [(0, .ref b), (1, .ref (zad E 0)), (2, .ref (zad E 262)), (3, .int (zi (wr (s11913.1 + 6))))]) [1, 2, 3, 0] rfl ?_
                                                                                                      exact k11916 (wr (s11913.1 + 6), q12514.2, q12519.2) (IR_wr _)
                                                                                                    · refine r_bf c12521 ?_
                                                                                                      exact fun e => by cases e
                                                                                                  · refine r_bf c12510 ?_
                                                                                                    by_cases c12522 : (zand v11920 63 = 47)
                                                                                                    · refine r_bt c12522 ?_
                                                                                                      refine r_tswIn (kx := 47) (tgt := 1481) C (i32_IR _) dL_law_33 c12522 (by decide) (by decide) rfl (by decide) ?_
                                                                                                      refine r_aload_n (pc := 1481) (j := 1) C dL_law_1481 rfl rfl ?_
                                                                                                      refine r_aload_n (pc := 1482) (j := 0) C dL_law_1482 rfl rfl ?_
                                                                                                      refine r_iload_n (pc := 1483) (j := 3) C dL_law_1483 rfl rfl ?_
                                                                                                      refine r_iconst (v := 1) C dL_law_1484 (by decide) ?_
                                                                                                      refine r_iadd C dL_law_1485 ?_
                                                                                                      refine r_bb ?_
                                                                                                      refine r_sld C hX (IR_wr _) dL_law_1486 (fun v12523 h12524 => ?_)
                                                                                                      refine r_bj ?_
                                                                                                      refine r_jn (fun q12526 e12527 => ?_)
                                                                                                      refine r_cV1 (pc := 1487) (k := 0) (As := [.int (zi v12523)]) (st := []) C (m_X11_later (a1 := v12523) h12524 e12527) cal_X11_later cl_X11 kd_0 ln_0 q_1494 dL_law_1487 rfl rfl (Nat.le_of_ble_eq_true rfl) (Nat.le_of_ble_eq_true rfl) (Nat.le_of_ble_eq_true rfl) (Nat.le_of_ble_eq_true rfl) (Nat.le_of_ble_eq_true rfl) (fun h12525 => ?_)
                                                                                                      refine r_aload_n (pc := 1490) (j := 2) C dL_law_1490 rfl rfl ?_
                                                                                                      refine r_aload_n (pc := 1491) (j := 0) C dL_law_1491 rfl rfl ?_
                                                                                                      refine r_iload_n (pc := 1492) (j := 3) C dL_law_1492 rfl rfl ?_
                                                                                                      refine r_iconst (v := 1) C dL_law_1493 (by decide) ?_
                                                                                                      refine r_iadd C dL_law_1494 ?_
                                                                                                      refine r_bb ?_
                                                                                                      refine r_sld C hX (IR_wr _) dL_law_1495 (fun v12528 h12529 => ?_)
                                                                                                      refine r_bj ?_
                                                                                                      refine r_jn (fun q12531 e12532 => ?_)
                                                                                                      refine r_cV1 (pc := 1496) (k := 262) (As := [.int (zi v12528)]) (st := [.int (zi q12526.1)]) C (m_X12_later (a1 := v12528) h12529 e12532) cal_X12_later cl_X12 kd_262 ln_262 q_2353 dL_law_1496 rfl rfl (Nat.le_of_ble_eq_true rfl) (Nat.le_of_ble_eq_true rfl) (Nat.le_of_ble_eq_true rfl) (Nat.le_of_ble_eq_true rfl) (Nat.le_of_ble_eq_true rfl) (fun h12530 => ?_)
                                                                                                      refine r_icmp_eq (tgt := 1692) C h12525 h12530 dL_law_1499 (by decide) (fun c12533 => ?_) (fun c12533 => ?_)
                                                                                                      · refine r_bt c12533 ?_
                                                                                                        refine r_iinc (j := 3) (L' := [(3, .int (zi (wr (s11913.1 + 6)))), (0, .ref b), (1, .ref (zad E 0)), (2, .ref (zad E 262))]) C dL_law_1692 rfl (by decide) rfl ?_
                                                                                                        refine r_goto (tgt := 18) C dL_law_1695 (by decide) ?_
                                                                                                        refine r_L (L' := [(0, .ref b), (1, .ref (zad E 0)), (2, .ref (zad E 262)), (3, .int (zi (wr (s11913.1 + 6))))]) [1, 2, 3, 0] rfl ?_
                                                                                                        exact k11916 (wr (s11913.1 + 6), q12526.2, q12531.2) (IR_wr _)
                                                                                                      · refine r_bf c12533 ?_
                                                                                                        exact fun e => by cases e
                                                                                                    · refine r_bf c12522 ?_
                                                                                                      by_cases c12534 : (zand v11920 63 = 48)
                                                                                                      · refine r_bt c12534 ?_
                                                                                                        refine r_tswIn (kx := 48) (tgt := 1504) C (i32_IR _) dL_law_33 c12534 (by decide) (by decide) rfl (by decide) ?_
                                                                                                        refine r_aload_n (pc := 1504) (j := 1) C dL_law_1504 rfl rfl ?_
                                                                                                        refine r_aload_n (pc := 1505) (j := 0) C dL_law_1505 rfl rfl ?_
                                                                                                        refine r_iload_n (pc := 1506) (j := 3) C dL_law_1506 rfl rfl ?_
                                                                                                        refine r_iconst (v := 1) C dL_law_1507 (by decide) ?_
                                                                                                        refine r_iadd C dL_law_1508 ?_
                                                                                                        refine r_bb ?_
                                                                                                        refine r_sld C hX (IR_wr _) dL_law_1509 (fun v12535 h12536 => ?_)
                                                                                                        refine r_aload_n (pc := 1510) (j := 0) C dL_law_1510 rfl rfl ?_
                                                                                                        refine r_iload_n (pc := 1511) (j := 3) C dL_law_1511 rfl rfl ?_
                                                                                                        refine r_iconst (v := 2) C dL_law_1512 (by decide) ?_
                                                                                                        refine r_iadd C dL_law_1513 ?_
                                                                                                        refine r_bb ?_
                                                                                                        refine r_sld C hX (IR_wr _) dL_law_1514 (fun v12537 h12538 => ?_)
                                                                                                        refine r_bb ?_
                                                                                                        refine r_bd (fun q12540 e12541 => ?_)
                                                                                                        refine r_cV1 (pc := 1515) (k := 0) (As := [.int (zi v12535), .int (zi v12537)]) (st := []) C (m_X11_fits (a1 := v12535) (a2 := v12537) h12536 h12538 e12541) cal_X11_fits cl_X11 kd_0 ln_0 q_1503 dL_law_1515 rfl rfl (Nat.le_of_ble_eq_true rfl) (Nat.le_of_ble_eq_true rfl) (Nat.le_of_ble_eq_true rfl) (Nat.le_of_ble_eq_true rfl) (Nat.le_of_ble_eq_true rfl) (fun h12539 => ?_)
                                                                                                        refine r_aload_n (pc := 1518) (j := 2) C dL_law_1518 rfl rfl ?_
                                                                                                        refine r_aload_n (pc := 1519) (j := 0) C dL_law_1519 rfl rfl ?_
                                                                                                        refine r_iload_n (pc := 1520) (j := 3) C dL_law_1520 rfl rfl ?_
                                                                                                        refine r_iconst (v := 1) C dL_law_1521 (by decide) ?_
                                                                                                        refine r_iadd C dL_law_1522 ?_
                                                                                                        refine r_bb ?_
                                                                                                        refine r_sld C hX (IR_wr _) dL_law_1523 (fun v12542 h12543 => ?_)
                                                                                                        refine r_aload_n (pc := 1524) (j := 0) C dL_law_1524 rfl rfl ?_
                                                                                                        refine r_iload_n (pc := 1525) (j := 3) C dL_law_1525 rfl rfl ?_
                                                                                                        refine r_iconst (v := 2) C dL_law_1526 (by decide) ?_
                                                                                                        refine r_iadd C dL_law_1527 ?_
                                                                                                        refine r_bb ?_
                                                                                                        refine r_sld C hX (IR_wr _) dL_law_1528 (fun v12544 h12545 => ?_)
                                                                                                        refine r_bb ?_
                                                                                                        refine r_bd (fun q12547 e12548 => ?_)
                                                                                                        refine r_cV1 (pc := 1529) (k := 262) (As := [.int (zi v12542), .int (zi v12544)]) (st := [.int (zi q12540.1)]) C (m_X12_fits (a1 := v12542) (a2 := v12544) h12543 h12545 e12548) cal_X12_fits cl_X12 kd_262 ln_262 q_2358 dL_law_1529 rfl rfl (Nat.le_of_ble_eq_true rfl) (Nat.le_of_ble_eq_true rfl) (Nat.le_of_ble_eq_true rfl) (Nat.le_of_ble_eq_true rfl) (Nat.le_of_ble_eq_true rfl) (fun h12546 => ?_)
                                                                                                        refine r_icmp_eq (tgt := 1692) C h12539 h12546 dL_law_1532 (by decide) (fun c12549 => ?_) (fun c12549 => ?_)
                                                                                                        · refine r_bt c12549 ?_
                                                                                                          refine r_iinc (j := 3) (L' := [(3, .int (zi (wr (s11913.1 + 6)))), (0, .ref b), (1, .ref (zad E 0)), (2, .ref (zad E 262))]) C dL_law_1692 rfl (by decide) rfl ?_
                                                                                                          refine r_goto (tgt := 18) C dL_law_1695 (by decide) ?_
                                                                                                          refine r_L (L' := [(0, .ref b), (1, .ref (zad E 0)), (2, .ref (zad E 262)), (3, .int (zi (wr (s11913.1 + 6))))]) [1, 2, 3, 0] rfl ?_
                                                                                                          exact k11916 (wr (s11913.1 + 6), q12540.2, q12547.2) (IR_wr _)
                                                                                                        · refine r_bf c12549 ?_
                                                                                                          exact fun e => by cases e
                                                                                                      · refine r_bf c12534 ?_
                                                                                                        by_cases c12550 : (zand v11920 63 = 49)
                                                                                                        · refine r_bt c12550 ?_
                                                                                                          refine r_tswIn (kx := 49) (tgt := 1537) C (i32_IR _) dL_law_33 c12550 (by decide) (by decide) rfl (by decide) ?_
                                                                                                          refine r_aload_n (pc := 1537) (j := 1) C dL_law_1537 rfl rfl ?_
                                                                                                          refine r_aload_n (pc := 1538) (j := 0) C dL_law_1538 rfl rfl ?_
                                                                                                          refine r_iload_n (pc := 1539) (j := 3) C dL_law_1539 rfl rfl ?_
                                                                                                          refine r_iconst (v := 1) C dL_law_1540 (by decide) ?_
                                                                                                          refine r_iadd C dL_law_1541 ?_
                                                                                                          refine r_bb ?_
                                                                                                          refine r_sld C hX (IR_wr _) dL_law_1542 (fun v12551 h12552 => ?_)
                                                                                                          refine r_aload_n (pc := 1543) (j := 0) C dL_law_1543 rfl rfl ?_
                                                                                                          refine r_iload_n (pc := 1544) (j := 3) C dL_law_1544 rfl rfl ?_
                                                                                                          refine r_iconst (v := 2) C dL_law_1545 (by decide) ?_
                                                                                                          refine r_iadd C dL_law_1546 ?_
                                                                                                          refine r_bb ?_
                                                                                                          refine r_sld C hX (IR_wr _) dL_law_1547 (fun v12553 h12554 => ?_)
                                                                                                          refine r_aload_n (pc := 1548) (j := 0) C dL_law_1548 rfl rfl ?_
                                                                                                          refine r_iload_n (pc := 1549) (j := 3) C dL_law_1549 rfl rfl ?_
                                                                                                          refine r_iconst (v := 3) C dL_law_1550 (by decide) ?_
                                                                                                          refine r_iadd C dL_law_1551 ?_
                                                                                                          refine r_bb ?_
                                                                                                          refine r_sld C hX (IR_wr _) dL_law_1552 (fun v12555 h12556 => ?_)
                                                                                                          refine r_bb ?_
                                                                                                          refine r_bd (fun q12558 e12559 => ?_)
                                                                                                          refine r_cV1 (pc := 1553) (k := 0) (As := [.int (zi v12551), .int (zi v12553), .int (zi v12555)]) (st := []) C (m_X11_sure (a1 := v12551) (a2 := v12553) (a3 := v12555) h12552 h12554 h12556 e12559) cal_X11_sure cl_X11 kd_0 ln_0 q_1524 dL_law_1553 rfl rfl (Nat.le_of_ble_eq_true rfl) (Nat.le_of_ble_eq_true rfl) (Nat.le_of_ble_eq_true rfl) (Nat.le_of_ble_eq_true rfl) (Nat.le_of_ble_eq_true rfl) (fun h12557 => ?_)
                                                                                                          refine r_aload_n (pc := 1556) (j := 2) C dL_law_1556 rfl rfl ?_
                                                                                                          refine r_aload_n (pc := 1557) (j := 0) C dL_law_1557 rfl rfl ?_
                                                                                                          refine r_iload_n (pc := 1558) (j := 3) C dL_law_1558 rfl rfl ?_
                                                                                                          refine r_iconst (v := 1) C dL_law_1559 (by decide) ?_
                                                                                                          refine r_iadd C dL_law_1560 ?_
                                                                                                          refine r_bb ?_
                                                                                                          refine r_sld C hX (IR_wr _) dL_law_1561 (fun v12560 h12561 => ?_)
                                                                                                          refine r_aload_n (pc := 1562) (j := 0) C dL_law_1562 rfl rfl ?_
                                                                                                          refine r_iload_n (pc := 1563) (j := 3) C dL_law_1563 rfl rfl ?_
                                                                                                          refine r_iconst (v := 2) C dL_law_1564 (by decide) ?_
                                                                                                          refine r_iadd C dL_law_1565 ?_
                                                                                                          refine r_bb ?_
                                                                                                          refine r_sld C hX (IR_wr _) dL_law_1566 (fun v12562 h12563 => ?_)
                                                                                                          refine r_aload_n (pc := 1567) (j := 0) C dL_law_1567 rfl rfl ?_
                                                                                                          refine r_iload_n (pc := 1568) (j := 3) C dL_law_1568 rfl rfl ?_
                                                                                                          refine r_iconst (v := 3) C dL_law_1569 (by decide) ?_
                                                                                                          refine r_iadd C dL_law_1570 ?_
                                                                                                          refine r_bb ?_
                                                                                                          refine r_sld C hX (IR_wr _) dL_law_1571 (fun v12564 h12565 => ?_)
                                                                                                          refine r_bb ?_
                                                                                                          refine r_bd (fun q12567 e12568 => ?_)
                                                                                                          refine r_cV1 (pc := 1572) (k := 262) (As := [.int (zi v12560), .int (zi v12562), .int (zi v12564)]) (st := [.int (zi q12558.1)]) C (m_X12_sure (a1 := v12560) (a2 := v12562) (a3 := v12564) h12561 h12563 h12565 e12568) cal_X12_sure cl_X12 kd_262 ln_262 q_2369 dL_law_1572 rfl rfl (Nat.le_of_ble_eq_true rfl) (Nat.le_of_ble_eq_true rfl) (Nat.le_of_ble_eq_true rfl) (Nat.le_of_ble_eq_true rfl) (Nat.le_of_ble_eq_true rfl) (fun h12566 => ?_)
                                                                                                          refine r_icmp_eq (tgt := 1692) C h12557 h12566 dL_law_1575 (by decide) (fun c12569 => ?_) (fun c12569 => ?_)
                                                                                                          · refine r_bt c12569 ?_
                                                                                                            refine r_iinc (j := 3) (L' := [(3, .int (zi (wr (s11913.1 + 6)))), (0, .ref b), (1, .ref (zad E 0)), (2, .ref (zad E 262))]) C dL_law_1692 rfl (by decide) rfl ?_
                                                                                                            refine r_goto (tgt := 18) C dL_law_1695 (by decide) ?_
                                                                                                            refine r_L (L' := [(0, .ref b), (1, .ref (zad E 0)), (2, .ref (zad E 262)), (3, .int (zi (wr (s11913.1 + 6))))]) [1, 2, 3, 0] rfl ?_
                                                                                                            exact k11916 (wr (s11913.1 + 6), q12558.2, q12567.2) (IR_wr _)
                                                                                                          · refine r_bf c12569 ?_
                                                                                                            exact fun e => by cases e
                                                                                                        · refine r_bf c12550 ?_
                                                                                                          by_cases c12570 : (zand v11920 63 = 50)
                                                                                                          · refine r_bt c12570 ?_
                                                                                                            refine r_tswIn (kx := 50) (tgt := 1580) C (i32_IR _) dL_law_33 c12570 (by decide) (by decide) rfl (by decide) ?_
                                                                                                            refine r_aload_n (pc := 1580) (j := 1) C dL_law_1580 rfl rfl ?_
                                                                                                            refine r_aload_n (pc := 1581) (j := 0) C dL_law_1581 rfl rfl ?_
                                                                                                            refine r_iload_n (pc := 1582) (j := 3) C dL_law_1582 rfl rfl ?_
                                                                                                            refine r_iconst (v := 1) C dL_law_1583 (by decide) ?_
                                                                                                            refine r_iadd C dL_law_1584 ?_
                                                                                                            refine r_bb ?_
                                                                                                            refine r_sld C hX (IR_wr _) dL_law_1585 (fun v12571 h12572 => ?_)
                                                                                                            refine r_aload_n (pc := 1586) (j := 0) C dL_law_1586 rfl rfl ?_
                                                                                                            refine r_iload_n (pc := 1587) (j := 3) C dL_law_1587 rfl rfl ?_
                                                                                                            refine r_iconst (v := 2) C dL_law_1588 (by decide) ?_
                                                                                                            refine r_iadd C dL_law_1589 ?_
                                                                                                            refine r_bb ?_
                                                                                                            refine r_sld C hX (IR_wr _) dL_law_1590 (fun v12573 h12574 => ?_)
                                                                                                            refine r_aload_n (pc := 1591) (j := 0) C dL_law_1591 rfl rfl ?_
                                                                                                            refine r_iload_n (pc := 1592) (j := 3) C dL_law_1592 rfl rfl ?_
                                                                                                            refine r_iconst (v := 3) C dL_law_1593 (by decide) ?_
                                                                                                            refine r_iadd C dL_law_1594 ?_
                                                                                                            refine r_bb ?_
                                                                                                            refine r_sld C hX (IR_wr _) dL_law_1595 (fun v12575 h12576 => ?_)
                                                                                                            refine r_bb ?_
                                                                                                            refine r_bd (fun q12578 e12579 => ?_)
                                                                                                            refine r_cV1 (pc := 1596) (k := 0) (As := [.int (zi v12571), .int (zi v12573), .int (zi v12575)]) (st := []) C (m_X11_ask (a1 := v12571) (a2 := v12573) (a3 := v12575) h12572 h12574 h12576 e12579) cal_X11_ask cl_X11 kd_0 ln_0 q_1528 dL_law_1596 rfl rfl (Nat.le_of_ble_eq_true rfl) (Nat.le_of_ble_eq_true rfl) (Nat.le_of_ble_eq_true rfl) (Nat.le_of_ble_eq_true rfl) (Nat.le_of_ble_eq_true rfl) (fun h12577 => ?_)
                                                                                                            refine r_aload_n (pc := 1599) (j := 2) C dL_law_1599 rfl rfl ?_
                                                                                                            refine r_aload_n (pc := 1600) (j := 0) C dL_law_1600 rfl rfl ?_
                                                                                                            refine r_iload_n (pc := 1601) (j := 3) C dL_law_1601 rfl rfl ?_
                                                                                                            refine r_iconst (v := 1) C dL_law_1602 (by decide) ?_
                                                                                                            refine r_iadd C dL_law_1603 ?_
                                                                                                            refine r_bb ?_
                                                                                                            refine r_sld C hX (IR_wr _) dL_law_1604 (fun v12580 h12581 => ?_)
                                                                                                            refine r_aload_n (pc := 1605) (j := 0) C dL_law_1605 rfl rfl ?_
                                                                                                            refine r_iload_n (pc := 1606) (j := 3) C dL_law_1606 rfl rfl ?_
                                                                                                            refine r_iconst (v := 2) C dL_law_1607 (by decide) ?_
                                                                                                            refine r_iadd C dL_law_1608 ?_
                                                                                                            refine r_bb ?_
                                                                                                            refine r_sld C hX (IR_wr _) dL_law_1609 (fun v12582 h12583 => ?_)
                                                                                                            refine r_aload_n (pc := 1610) (j := 0) C dL_law_1610 rfl rfl ?_
                                                                                                            refine r_iload_n (pc := 1611) (j := 3) C dL_law_1611 rfl rfl ?_
                                                                                                            refine r_iconst (v := 3) C dL_law_1612 (by decide) ?_
                                                                                                            refine r_iadd C dL_law_1613 ?_
                                                                                                            refine r_bb ?_
                                                                                                            refine r_sld C hX (IR_wr _) dL_law_1614 (fun v12584 h12585 => ?_)
                                                                                                            refine r_bb ?_
                                                                                                            refine r_bd (fun q12587 e12588 => ?_)
                                                                                                            refine r_cV1 (pc := 1615) (k := 262) (As := [.int (zi v12580), .int (zi v12582), .int (zi v12584)]) (st := [.int (zi q12578.1)]) C (m_X12_ask (a1 := v12580) (a2 := v12582) (a3 := v12584) h12581 h12583 h12585 e12588) cal_X12_ask cl_X12 kd_262 ln_262 q_2373 dL_law_1615 rfl rfl (Nat.le_of_ble_eq_true rfl) (Nat.le_of_ble_eq_true rfl) (Nat.le_of_ble_eq_true rfl) (Nat.le_of_ble_eq_true rfl) (Nat.le_of_ble_eq_true rfl) (fun h12586 => ?_)
                                                                                                            refine r_icmp_eq (tgt := 1692) C h12577 h12586 dL_law_1618 (by decide) (fun c12589 => ?_) (fun c12589 => ?_)
                                                                                                            · refine r_bt c12589 ?_
                                                                                                              refine r_iinc (j := 3) (L' := [(3, .int (zi (wr (s11913.1 + 6)))), (0, .ref b), (1, .ref (zad E 0)), (2, .ref (zad E 262))]) C dL_law_1692 rfl (by decide) rfl ?_
                                                                                                              refine r_goto (tgt := 18) C dL_law_1695 (by decide) ?_
                                                                                                              refine r_L (L' := [(0, .ref b), (1, .ref (zad E 0)), (2, .ref (zad E 262)), (3, .int (zi (wr (s11913.1 + 6))))]) [1, 2, 3, 0] rfl ?_
                                                                                                              exact k11916 (wr (s11913.1 + 6), q12578.2, q12587.2) (IR_wr _)
                                                                                                            · refine r_bf c12589 ?_
                                                                                                              exact fun e => by cases e
                                                                                                          · refine r_bf c12570 ?_
                                                                                                            by_cases c12590 : (zand v11920 63 = 51)
                                                                                                            · refine r_bt c12590 ?_
                                                                                                              refine r_tswIn (kx := 51) (tgt := 1623) C (i32_IR _) dL_law_33 c12590 (by decide) (by decide) rfl (by decide) ?_
                                                                                                              refine r_aload_n (pc := 1623) (j := 1) C dL_law_1623 rfl rfl ?_
                                                                                                              refine r_aload_n (pc := 1624) (j := 0) C dL_law_1624 rfl rfl ?_
                                                                                                              refine r_iload_n (pc := 1625) (j := 3) C dL_law_1625 rfl rfl ?_
                                                                                                              refine r_iconst (v := 1) C dL_law_1626 (by decide) ?_
                                                                                                              refine r_iadd C dL_law_1627 ?_
                                                                                                              refine r_bb ?_
                                                                                                              refine r_sld C hX (IR_wr _) dL_law_1628 (fun v12591 h12592 => ?_)
                                                                                                              refine r_bj ?_
                                                                                                              refine r_jn (fun q12594 e12595 => ?_)
                                                                                                              refine r_cV1 (pc := 1629) (k := 0) (As := [.int (zi v12591)]) (st := []) C (m_X11_image (a1 := v12591) h12592 e12595) cal_X11_image cl_X11 kd_0 ln_0 q_1220 dL_law_1629 rfl rfl (Nat.le_of_ble_eq_true rfl) (Nat.le_of_ble_eq_true rfl) (Nat.le_of_ble_eq_true rfl) (Nat.le_of_ble_eq_true rfl) (Nat.le_of_ble_eq_true rfl) (fun h12593 => ?_)
                                                                                                              refine r_aload_n (pc := 1632) (j := 2) C dL_law_1632 rfl rfl ?_
                                                                                                              refine r_aload_n (pc := 1633) (j := 0) C dL_law_1633 rfl rfl ?_
                                                                                                              refine r_iload_n (pc := 1634) (j := 3) C dL_law_1634 rfl rfl ?_
                                                                                                              refine r_iconst (v := 1) C dL_law_1635 (by decide) ?_
                                                                                                              refine r_iadd C dL_law_1636 ?_
                                                                                                              refine r_bb ?_
                                                                                                              refine r_sld C hX (IR_wr _) dL_law_1637 (fun v12596 h12597 => ?_)
                                                                                                              refine r_bb ?_
                                                                                                              refine r_bd (fun q12599 e12600 => ?_)
                                                                                                              refine r_cV1 (pc := 1638) (k := 262) (As := [.int (zi v12596)]) (st := [.int (zi q12594.1)]) C (m_X12_image (a1 := v12596) h12597 e12600) cal_X12_image cl_X12 kd_262 ln_262 q_2381 dL_law_1638 rfl rfl (Nat.le_of_ble_eq_true rfl) (Nat.le_of_ble_eq_true rfl) (Nat.le_of_ble_eq_true rfl) (Nat.le_of_ble_eq_true rfl) (Nat.le_of_ble_eq_true rfl) (fun h12598 => ?_)
                                                                                                              refine r_icmp_eq (tgt := 1692) C h12593 h12598 dL_law_1641 (by decide) (fun c12601 => ?_) (fun c12601 => ?_)
                                                                                                              · refine r_bt c12601 ?_
                                                                                                                refine r_iinc (j := 3) (L' := [(3, .int (zi (wr (s11913.1 + 6)))), (0, .ref b), (1, .ref (zad E 0)), (2, .ref (zad E 262))]) C dL_law_1692 rfl (by decide) rfl ?_
                                                                                                                refine r_goto (tgt := 18) C dL_law_1695 (by decide) ?_
                                                                                                                refine r_L (L' := [(0, .ref b), (1, .ref (zad E 0)), (2, .ref (zad E 262)), (3, .int (zi (wr (s11913.1 + 6))))]) [1, 2, 3, 0] rfl ?_
                                                                                                                exact k11916 (wr (s11913.1 + 6), q12594.2, q12599.2) (IR_wr _)
                                                                                                              · refine r_bf c12601 ?_
                                                                                                                exact fun e => by cases e
                                                                                                            · refine r_bf c12590 ?_
                                                                                                              by_cases c12602 : (zand v11920 63 = 52)
                                                                                                              · refine r_bt c12602 ?_
                                                                                                                refine r_tswIn (kx := 52) (tgt := 1646) C (i32_IR _) dL_law_33 c12602 (by decide) (by decide) rfl (by decide) ?_
                                                                                                                refine r_aload_n (pc := 1646) (j := 1) C dL_law_1646 rfl rfl ?_
                                                                                                                refine r_aload_n (pc := 1647) (j := 0) C dL_law_1647 rfl rfl ?_
                                                                                                                refine r_iload_n (pc := 1648) (j := 3) C dL_law_1648 rfl rfl ?_
                                                                                                                refine r_iconst (v := 1) C dL_law_1649 (by decide) ?_
                                                                                                                refine r_iadd C dL_law_1650 ?_
                                                                                                                refine r_bb ?_
                                                                                                                refine r_sld C hX (IR_wr _) dL_law_1651 (fun v12603 h12604 => ?_)
                                                                                                                refine r_bj ?_
                                                                                                                refine r_jn (fun q12606 e12607 => ?_)
                                                                                                                refine r_cV1 (pc := 1652) (k := 0) (As := [.int (zi v12603)]) (st := []) C (m_X11_back (a1 := v12603) h12604 e12607) cal_X11_back cl_X11 kd_0 ln_0 q_1233 dL_law_1652 rfl rfl (Nat.le_of_ble_eq_true rfl) (Nat.le_of_ble_eq_true rfl) (Nat.le_of_ble_eq_true rfl) (Nat.le_of_ble_eq_true rfl) (Nat.le_of_ble_eq_true rfl) (fun h12605 => ?_)
                                                                                                                refine r_aload_n (pc := 1655) (j := 2) C dL_law_1655 rfl rfl ?_
                                                                                                                refine r_aload_n (pc := 1656) (j := 0) C dL_law_1656 rfl rfl ?_
                                                                                                                refine r_iload_n (pc := 1657) (j := 3) C dL_law_1657 rfl rfl ?_
                                                                                                                refine r_iconst (v := 1) C dL_law_1658 (by decide) ?_
                                                                                                                refine r_iadd C dL_law_1659 ?_
                                                                                                                refine r_bb ?_
                                                                                                                refine r_sld C hX (IR_wr _) dL_law_1660 (fun v12608 h12609 => ?_)
                                                                                                                refine r_bb ?_
                                                                                                                refine r_bd (fun q12611 e12612 => ?_)
                                                                                                                refine r_cV1 (pc := 1661) (k := 262) (As := [.int (zi v12608)]) (st := [.int (zi q12606.1)]) C (m_X12_back (a1 := v12608) h12609 e12612) cal_X12_back cl_X12 kd_262 ln_262 q_2388 dL_law_1661 rfl rfl (Nat.le_of_ble_eq_true rfl) (Nat.le_of_ble_eq_true rfl) (Nat.le_of_ble_eq_true rfl) (Nat.le_of_ble_eq_true rfl) (Nat.le_of_ble_eq_true rfl) (fun h12610 => ?_)
                                                                                                                refine r_icmp_eq (tgt := 1692) C h12605 h12610 dL_law_1664 (by decide) (fun c12613 => ?_) (fun c12613 => ?_)
                                                                                                                · refine r_bt c12613 ?_
                                                                                                                  refine r_iinc (j := 3) (L' := [(3, .int (zi (wr (s11913.1 + 6)))), (0, .ref b), (1, .ref (zad E 0)), (2, .ref (zad E 262))]) C dL_law_1692 rfl (by decide) rfl ?_
                                                                                                                  refine r_goto (tgt := 18) C dL_law_1695 (by decide) ?_
                                                                                                                  refine r_L (L' := [(0, .ref b), (1, .ref (zad E 0)), (2, .ref (zad E 262)), (3, .int (zi (wr (s11913.1 + 6))))]) [1, 2, 3, 0] rfl ?_
                                                                                                                  exact k11916 (wr (s11913.1 + 6), q12606.2, q12611.2) (IR_wr _)
                                                                                                                · refine r_bf c12613 ?_
                                                                                                                  exact fun e => by cases e
                                                                                                              · refine r_bf c12602 ?_
                                                                                                                by_cases c12614 : (zand v11920 63 = 53)
                                                                                                                · refine r_bt c12614 ?_
                                                                                                                  refine r_tswIn (kx := 53) (tgt := 1669) C (i32_IR _) dL_law_33 c12614 (by decide) (by decide) rfl (by decide) ?_
                                                                                                                  refine r_aload_n (pc := 1669) (j := 1) C dL_law_1669 rfl rfl ?_
                                                                                                                  refine r_aload_n (pc := 1670) (j := 0) C dL_law_1670 rfl rfl ?_
                                                                                                                  refine r_iload_n (pc := 1671) (j := 3) C dL_law_1671 rfl rfl ?_
                                                                                                                  refine r_iconst (v := 1) C dL_law_1672 (by decide) ?_
                                                                                                                  refine r_iadd C dL_law_1673 ?_
                                                                                                                  refine r_bb ?_
                                                                                                                  refine r_sld C hX (IR_wr _) dL_law_1674 (fun v12615 h12616 => ?_)
                                                                                                                  refine r_cV1 (pc := 1675) (k := 0) (As := [.int (zi v12615)]) (st := []) C (m_X11_about (a1 := v12615) h12616 rfl) cal_X11_about cl_X11 kd_0 ln_0 q_1543 dL_law_1675 rfl rfl (Nat.le_of_ble_eq_true rfl) (Nat.le_of_ble_eq_true rfl) (Nat.le_of_ble_eq_true rfl) (Nat.le_of_ble_eq_true rfl) (Nat.le_of_ble_eq_true rfl) (fun h12617 => ?_)
                                                                                                                  refine r_aload_n (pc := 1678) (j := 2) C dL_law_1678 rfl rfl ?_
                                                                                                                  refine r_aload_n (pc := 1679) (j := 0) C dL_law_1679 rfl rfl ?_
                                                                                                                  refine r_iload_n (pc := 1680) (j := 3) C dL_law_1680 rfl rfl ?_
                                                                                                                  refine r_iconst (v := 1) C dL_law_1681 (by decide) ?_
                                                                                                                  refine r_iadd C dL_law_1682 ?_
                                                                                                                  refine r_bb ?_
                                                                                                                  refine r_sld C hX (IR_wr _) dL_law_1683 (fun v12618 h12619 => ?_)
                                                                                                                  refine r_bb ?_
                                                                                                                  refine r_bd (fun q12621 e12622 => ?_)
                                                                                                                  refine r_cV1 (pc := 1684) (k := 262) (As := [.int (zi v12618)]) (st := [.int (zi (f_X11_about v12615 s11913.2.1))]) C (m_X12_about (a1 := v12618) h12619 e12622) cal_X12_about cl_X12 kd_262 ln_262 q_2392 dL_law_1684 rfl rfl (Nat.le_of_ble_eq_true rfl) (Nat.le_of_ble_eq_true rfl) (Nat.le_of_ble_eq_true rfl) (Nat.le_of_ble_eq_true rfl) (Nat.le_of_ble_eq_true rfl) (fun h12620 => ?_)
                                                                                                                  refine r_icmp_eq (tgt := 1692) C h12617 h12620 dL_law_1687 (by decide) (fun c12623 => ?_) (fun c12623 => ?_)
                                                                                                                  · refine r_bt c12623 ?_
                                                                                                                    refine r_iinc (j := 3) (L' := [(3, .int (zi (wr (s11913.1 + 6)))), (0, .ref b), (1, .ref (zad E 0)), (2, .ref (zad E 262))]) C dL_law_1692 rfl (by decide) rfl ?_
                                                                                                                    refine r_goto (tgt := 18) C dL_law_1695 (by decide) ?_
                                                                                                                    refine r_L (L' := [(0, .ref b), (1, .ref (zad E 0)), (2, .ref (zad E 262)), (3, .int (zi (wr (s11913.1 + 6))))]) [1, 2, 3, 0] rfl ?_
                                                                                                                    exact k11916 (wr (s11913.1 + 6), s11913.2.1, s11913.2.2) (IR_wr _)
                                                                                                                  · refine r_bf c12623 ?_
                                                                                                                    exact fun e => by cases e
                                                                                                                · refine r_bf c12614 ?_
                                                                                                                  refine r_tswOut (tgt := 1692) C (i32_IR _) dL_law_33 (by omega) (by decide) ?_
                                                                                                                  refine r_iinc (j := 3) (L' := [(3, .int (zi (wr (s11913.1 + 6)))), (0, .ref b), (1, .ref (zad E 0)), (2, .ref (zad E 262))]) C dL_law_1692 rfl (by decide) rfl ?_
                                                                                                                  refine r_goto (tgt := 18) C dL_law_1695 (by decide) ?_
                                                                                                                  refine r_L (L' := [(0, .ref b), (1, .ref (zad E 0)), (2, .ref (zad E 262)), (3, .int (zi (wr (s11913.1 + 6))))]) [1, 2, 3, 0] rfl ?_
                                                                                                                  exact k11916 (wr (s11913.1 + 6), s11913.2.1, s11913.2.2) (IR_wr _)
