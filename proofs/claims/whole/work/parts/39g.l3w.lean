/-! LEVEL 3, w: the class's store is the reference's rows; an act more -/
def rtA (g : Sg) (w : Nat → Int) (A : Nat → Int) (i : Nat) : Int := dHas (vwD A i) (tRoot w (rowF g (mA A i) (A i)))
def csA (g : Sg) (w : Nat → Int) (slots : Nat) (A : Nat → Int) : Nat → Int
  | 0 => 0
  | i + 1 => ((nxF g w slots A i (mA A (i + 1)) (A (i + 1))).1 : Int)
def RepS (p : Nat) (S : Sst) (g : Sg) (w : Nat → Int) (slots : Nat) (A : Nat → Int) (v : Nat) : Prop :=
  S.1 (p + 1) = rg (v + 1) A ∧ S.1 (p + 3) = rg (v + 1) (fun i => A (41 + i)) ∧ S.1 (p + 5) = rg (v + 1) (fun i => A (82 + i)) ∧ S.1 (p + 7) = rg (v + 1) (fun i => A (123 + i)) ∧
  S.1 (p + 9) = rg (v + 1) (rtA g w A) ∧ S.1 (p + 11) = rg (v + 1) (csA g w slots A) ∧ RepD p S (vwD A v)
def stpA (g : Sg) (w : Nat → Int) (slots : Nat) (A : Nat → Int) (u : Nat) : Prop := eqD (clD (mA A (u + 1)) (nxF g w slots A u (mA A (u + 1)) (A (u + 1))).2) (vwD A (u + 1))
def verA (g : Sg) (n : Nat) (A : Nat → Int) (u : Nat) : Prop := Over g n (mA A u) (A u) ∧ 0 ≤ A u ∧ A u ≤ 60
def cA (A : Nat → Int) (u : Nat) : Nat := (A (82 + u)).toNat
def swM (g : Sg) (m : Nat) (x : Int) : Nat → Nat
  | 0 => m
  | k + 1 => if sga g k = x then put1 (swM g m x k) k else if sgb g k = x then clr (swM g m x k) k else swM g m x k
theorem swM_lt {g : Sg} {m : Nat} {x : Int} (hm : m < 256) : ∀ k, k ≤ 8 → swM g m x k < 256
  | 0, _ => hm
  | k + 1, hk => by
    have ih := swM_lt (g := g) (x := x) hm k (by omega)
    unfold swM
    split
    · exact put1_lt ih (by omega)
    · split
      · exact clr_lt ih (by omega)
      · exact ih
/-- what an act makes of a version -/
def actA (g : Sg) (n : Nat) (ev : Nat → Int) (ne : Nat) (A : Nat → Int) (u : Nat) (act : Int) : Prop :=
  (A (82 + u) = (cA A u : Int) ∧ cA A u < 256 ∧ ∃ e : Nat, A (123 + u) = (e : Int) ∧ e ≤ ne) ∧
  ((act = 0 ∧ ∃ e : Nat, A (123 + u) = (e : Int) ∧ e < ne ∧ A (u + 1) = ev e ∧ A (41 + (u + 1)) = (swM g (mA A u) (ev e) n : Int) ∧ A (82 + (u + 1)) = A (82 + u) ∧ A (123 + (u + 1)) = (e : Int) + 1) ∨
  (∃ s : Nat, s < n ∧ act = 16 + (s : Int) ∧ A (u + 1) = A u ∧ A (41 + (u + 1)) = (clr (mA A u) s : Int) ∧ A (82 + (u + 1)) = (put1 (cA A u) s : Int) ∧ A (123 + (u + 1)) = A (123 + u)) ∨
  ∃ s : Nat, s < n ∧ act = 32 + (s : Int) ∧ A (u + 1) = A u ∧ A (41 + (u + 1)) = (put1 (mA A u) s : Int) ∧ A (82 + (u + 1)) = (clr (cA A u) s : Int) ∧ A (123 + (u + 1)) = A (123 + u))
def PlS (S : Sst) (g : Sg) (n : Nat) (w ev : Nat → Int) (ne : Nat) (lo : Nat → Nat) (slots : Nat) : Prop :=
  RPl 29 S g n ∧ S.1 42 = rg n (fun k => (lo k : Int)) ∧ S.1 44 = rg n w ∧ S.1 46 = rg ne ev ∧ S.2 29 11 = (slots : Int) ∧ (∀ k, k < n → lowB g n k (lo k))
theorem zrem_f : ∀ s : Fin 8, zrem (16 + (s.val : Int)) 16 = (s.val : Int) ∧ zrem (32 + (s.val : Int)) 16 = (s.val : Int) := by decide +kernel
theorem cl_inBehind {S : Sst} {g : Sg} {n m : Nat} (h : RPl 29 S g n) (hn : n ≤ 8) (hm : m < 256) (x : Int) : f_X4_inBehind 29 m x S = some (swM g m x n : Int) := by
  unfold f_X4_inBehind
  refine Ret_eq (Ret_bind (P := fun r => r = (swM g m x n : Int)) (Ret_lp (fun c q => q = ((swM g m x c : Int), (c : Int))) n (by omega) rfl (fun c q hc hI => ?_) (fun q hI => ?_)) (fun r hr => Ret_some hr))
  · subst hI
    have hl := swM_lt (g := g) (x := x) hm c (by omega)
    dsimp only [jn]
    rw [pl_count h, if_pos (by omega), at_nat h.1 hc, at_nat h.2.2.1 hc, or_n hl (by omega), cl_n hl (by omega), wr_id (by omega) (by omega)]
    refine Ret_some ⟨_, rfl, ?_⟩
    have e : swM g m x (c + 1) = if sga g c = x then put1 (swM g m x c) c else if sgb g c = x then clr (swM g m x c) c else swM g m x c := rfl
    rw [e]
    (repeat' split) <;> rfl
  · subst hI
    dsimp only [jn]
    rw [pl_count h, if_neg (by omega)]
    exact Ret_some ⟨_, rfl, rfl⟩
theorem root_eq {g : Sg} {w : Nat → Int} {slots n : Nat} {A : Nat → Int} {u : Nat} (hg : OkSeg g n) (ho : Over g n (mA A (u + 1)) (A (u + 1))) (h : stpA g w slots A u) : dHas (nxF g w slots A u (mA A (u + 1)) (A (u + 1))).2 (tRoot w (rowF g (mA A (u + 1)) (A (u + 1)))) = rtA g w A (u + 1) := by
  have hTT := joinJ_TT w (rowF g (mA A (u + 1)) (A (u + 1))) (rowF_nodup hg ho)
  unfold rtA dHas
  rcases TT_t hTT with e | ⟨y, e, hy⟩
  · rw [e, if_pos (by decide), if_pos (by decide)]
  · rw [e, if_neg (by omega), if_neg (by omega), Int.toNat_natCast]
    have hb := (rowF_mem hg ho).mp hy
    have hy8 : y < 8 := by have := (ho.2 y hb).1; have := hg.1; omega
    rw [← h.2.2 y hy8, clD_9, if_neg (by simp [hb])]
def kSto : List Nat := [60, 62, 64, 66, 68, 70, 72, 75, 77, 79, 81, 83, 85, 87, 89, 91, 93, 95, 97, 99, 101, 103, 105]
theorem cl_perform {S : Sst} {g : Sg} {n slots ne tp u : Nat} {w ev : Nat → Int} {lo : Nat → Nat} {A : Nat → Int} {act : Int} (hP : PlS S g n w ev ne lo slots) (hg : OkSeg g n) (h6 : slots ≤ 6) (hA : okA A n slots tp) (hu : u < tp) (hu40 : u < 40) (hR : RepS 74 S g w slots A u) (hs : stpA g w slots A u) (hv : verA g n A (u + 1)) (ha : actA g n ev ne A u act) (hd : 0 ≤ S.2 239 1 ∧ S.2 239 1 ≤ 1000) (hne : ne ≤ 16) :
    Ret (f_X0_perform act S) (fun S' => RepS 74 S' g w slots A (u + 1) ∧ S'.2 239 1 = S.2 239 1 + 1 ∧ (∀ k, (k < 60 ∨ 105 < k ∨ k = 74) → S'.1 k = S.1 k) ∧ ∀ k j, (k, j) ∉ [(59, 5), (59, 6), (239, 1)] → S'.2 k j = S.2 k j) := by
  obtain ⟨hp1, hp2, hp3, hp4, hp5, hp6⟩ := hP
  obtain ⟨r1, r2, r3, r4, r5, r6, r7⟩ := hR
  obtain ⟨⟨ac, ac8, e0, ae, aen⟩, ha⟩ := ha
  have hn8 := hg.1
  obtain ⟨am, am8, _⟩ := hA.1 u (by omega)
  obtain ⟨bm, bm8, _⟩ := hA.1 (u + 1) (by omega)
  have hnew : f_X7_newest 74 S = (u : Int) := newest_row (by rw [r1, rg_len]) (by omega)
  have a1 : f_X6_at 75 (u : Int) S = A u := at_nat r1 (by omega)
  have a2 : f_X6_at 77 (u : Int) S = (mA A u : Int) := by rw [at_nat r2 (show u < u + 1 by omega), am]
  have a3 : f_X6_at 79 (u : Int) S = (cA A u : Int) := by rw [at_nat r3 (show u < u + 1 by omega), ac]
  have a4 : f_X6_at 81 (u : Int) S = (e0 : Int) := by rw [at_nat r4 (show u < u + 1 by omega), ae]
  unfold f_X0_perform
  dsimp only [jn]
  rw [hnew, a1, a2, a3, a4]
  refine Ret_bind (P := fun q => q = (A (u + 1), (mA A (u + 1) : Int), A (82 + (u + 1)), A (123 + (u + 1)))) ?_ (fun q hq => ?_)
  · rcases ha with ⟨rfl, e, q1, q2, q3, q4, q5, q6⟩ | ⟨s, hs, rfl, q3, q4, q5, q6⟩ | ⟨s, hs, rfl, q3, q4, q5, q6⟩
    · have : e = e0 := by omega
      subst this
      rw [if_pos (by decide), if_pos (by decide), at_nat hp4 q2, cl_inBehind hp1 hn8 am8]
      dsimp only [Option.bind_some]
      refine Ret_some ?_
      rw [q3, q5, q6, ← bm, q4, ac, wr_id (by omega) (by omega)]
    · have hz := (zrem_f ⟨s, by omega⟩).1
      dsimp only at hz
      rw [if_pos (by omega), if_neg (by omega), hz, cl_n am8 (by omega), or_n ac8 (by omega)]
      refine Ret_some ?_
      rw [q3, q5, q6, ← bm, q4, ae]
    · have hz := (zrem_f ⟨s, by omega⟩).2
      dsimp only at hz
      rw [if_neg (by omega), hz, or_n am8 (by omega), cl_n ac8 (by omega)]
      refine Ret_some ?_
      rw [q3, q5, q6, ← bm, q4, ae]
  · subst hq
    dsimp only
    refine Ret_bind (cl_build hp2 hp3 hp6 hg hv.1) (fun S1 hS1 => ?_)
    obtain ⟨f1, t1⟩ := hS1
    have frow : ∀ k, (k < 60 ∨ 72 < k) → S1.1 k = S.1 k := fun k hk => f1.1 k (by simp [kTree]; omega)
    have e11 : S1.2 29 11 = (slots : Int) := by rw [f1.2 29 11 (by simp [jTree])]; exact hp5
    rw [e11]
    have hrep1 : RepD 74 S1 (vwD A u) := ⟨fun j hj => by rw [frow _ (by omega)]; exact r7.1 j hj, fun j hj => by rw [frow _ (by omega)]; exact r7.2.1 j hj, by rw [frow _ (by omega)]; exact r7.2.2⟩
    have hrl : (rowF g (mA A (u + 1)) (A (u + 1))).length ≤ 8 := by rw [rowF_len hg hv.1]; exact pc_le _
    have hnu := nA_8 hA u (by omega)
    refine Ret_bind (cl_grow (u := u) (m := mA A u) (m' := mA A (u + 1)) (n := n) (A (u + 1)) (A (82 + (u + 1))) (A (123 + (u + 1))) (Or.inl rfl) hrep1 t1 (rowF_nodup hg hv.1) (fun y hy => (hv.1.2 y ((rowF_mem hg hv.1).mp hy)).1) hn8 hrl (FI_start hA h6 (by omega) _ _) (by rw [vwD_n]; omega) h6 (fun j hj => ?_) hu40 ?_ am8 bm8) (fun S2 hS2 => ?_)
    · rw [frow _ (by omega)]
      rcases (show j = 0 ∨ j = 1 ∨ j = 2 ∨ j = 3 ∨ j = 4 ∨ j = 5 by omega) with rfl | rfl | rfl | rfl | rfl | rfl
      · rw [show 74 + 1 + 2 * 0 = 74 + 1 from rfl, r1, rg_len]
      · rw [show 74 + 1 + 2 * 1 = 74 + 3 from rfl, r2, rg_len]
      · rw [show 74 + 1 + 2 * 2 = 74 + 5 from rfl, r3, rg_len]
      · rw [show 74 + 1 + 2 * 3 = 74 + 7 from rfl, r4, rg_len]
      · rw [show 74 + 1 + 2 * 4 = 74 + 9 from rfl, r5, rg_len]
      · rw [show 74 + 1 + 2 * 5 = 74 + 11 from rfl, r6, rg_len]
    · rw [at_nat (n := u + 1) (by rw [frow _ (by omega)]; exact r2) (by omega), am]
    · obtain ⟨g1, g2, g3, g4, g5, g6, g7, g8, g9⟩ := hS2
      refine Ret_some ⟨⟨?_, ?_, ?_, ?_, ?_, ?_, ?_⟩, ?_, fun k hk => ?_, fun k j hk => ?_⟩
      · show S2.1 (74 + 1) = _
        rw [g2, frow _ (by omega), r1]
        exact rg_app' rfl
      · show S2.1 (74 + 3) = _
        rw [g3, frow _ (by omega), r2]
        exact rg_app' bm
      · show S2.1 (74 + 5) = _
        rw [g4, frow _ (by omega), r3]
        exact rg_app' rfl
      · show S2.1 (74 + 7) = _
        rw [g5, frow _ (by omega), r4]
        exact rg_app' rfl
      · show S2.1 (74 + 9) = _
        rw [g6, frow _ (by omega), r5]
        exact rg_app' (root_eq hg hv.1 hs).symm
      · show S2.1 (74 + 11) = _
        rw [g7, frow _ (by omega), r6]
        exact rg_app' rfl
      · have := RepD_eq g1 hs
        exact this
      · rw [upS_at, g8, f1.2 239 1 (by simp [jTree]), wr_id (by omega) (by omega)]
      · rw [upS_R, g9 k (by omega), frow k (by omega)]
      · show up2 S2.2 239 1 _ k j = _
        simp only [List.mem_cons, List.not_mem_nil, or_false, Prod.mk.injEq, not_or] at hk
        rw [up2_ne (by omega), g8, f1.2 k j (by simp [jTree]; omega)]
