/-! LEVEL 3, d: the tree of a row (pure) -/
def hvb (w : Nat → Int) (x s : Nat) : Bool := decide (w s < w x ∨ (w x = w s ∧ x < s))
def popJ (w : Nat → Int) (x : Nat) : List Nat → Int → Int × List Nat
  | [], t => (t, [])
  | s :: st, t => if hvb w x s = true then popJ w x st (s : Int) else (t, s :: st)
def updI (f : Nat → Int) (k : Nat) (v : Int) : Nat → Int := fun i => if i = k then v else f i
def hangR (R : Nat → Int) (st : List Nat) (x : Nat) : Nat → Int := match st with
  | [] => R
  | s :: _ => updI R s (x : Int)
abbrev JT : Type := (Nat → Int) × (Nat → Int) × List Nat
def stepJ (w : Nat → Int) (q : JT) (x : Nat) : JT := (updI q.1 x (popJ w x q.2.2 (-1)).1, hangR q.2.1 (popJ w x q.2.2 (-1)).2 x, x :: (popJ w x q.2.2 (-1)).2)
def joinJ (w : Nat → Int) (r : List Nat) : JT := r.foldl (stepJ w) (fun _ => -1, fun _ => -1, [])
def botJ : List Nat → Int
  | [] => -1
  | [s] => s
  | _ :: s :: st => botJ (s :: st)
def isT (L R : Nat → Int) : Nat → Int → List Nat → Prop
  | 0, t, r => t = -1 ∧ r = []
  | f + 1, t, r => (t = -1 ∧ r = []) ∨ ∃ (s : Nat) (a b : List Nat), t = (s : Int) ∧ r = a ++ s :: b ∧ isT L R f (L s) a ∧ isT L R f (R s) b
def TT (L R : Nat → Int) (t : Int) (r : List Nat) : Prop := isT L R r.length t r
theorem isT_nil (L R : Nat → Int) (f : Nat) : isT L R f (-1) [] := by
  cases f with
  | zero => exact ⟨rfl, rfl⟩
  | succ f => exact Or.inl ⟨rfl, rfl⟩
theorem isT_len {L R : Nat → Int} : ∀ (g f : Nat) (t : Int) (r : List Nat), isT L R f t r → r.length ≤ g → isT L R g t r := by
  intro g
  induction g with
  | zero =>
    intro f t r h hl
    have hr : r = [] := List.eq_nil_of_length_eq_zero (by omega)
    subst hr
    cases f with
    | zero => exact h
    | succ f =>
      rcases h with h | ⟨s, a, b, _, e, _⟩
      · exact h
      · have := congrArg List.length e
        simp at this
  | succ g ih =>
    intro f t r h hl
    cases f with
    | zero => exact Or.inl h
    | succ f =>
      rcases h with h | ⟨s, a, b, e1, e2, e3, e4⟩
      · exact Or.inl h
      · have hl2 : r.length = a.length + b.length + 1 := by rw [e2]; simp; omega
        exact Or.inr ⟨s, a, b, e1, e2, ih f _ a e3 (by omega), ih f _ b e4 (by omega)⟩
theorem TT_of {L R : Nat → Int} {f : Nat} {t : Int} {r : List Nat} (h : isT L R f t r) : TT L R t r := isT_len _ f t r h (Nat.le_refl _)
theorem TT_nil (L R : Nat → Int) : TT L R (-1) [] := isT_nil L R _
theorem TT_at {L R : Nat → Int} {t : Int} {r : List Nat} (h : TT L R t r) {f : Nat} (hf : r.length ≤ f) : isT L R f t r := isT_len _ _ _ _ h hf
theorem TT_node {L R : Nat → Int} {s : Nat} {a b : List Nat} (h1 : TT L R (L s) a) (h2 : TT L R (R s) b) : TT L R s (a ++ s :: b) :=
  TT_of (f := a.length + b.length + 1) (Or.inr ⟨s, a, b, rfl, rfl, TT_at h1 (by omega), TT_at h2 (by omega)⟩)
theorem TT_inv {L R : Nat → Int} {t : Int} {r : List Nat} (h : TT L R t r) : (t = -1 ∧ r = []) ∨ ∃ (s : Nat) (a b : List Nat), t = (s : Int) ∧ r = a ++ s :: b ∧ TT L R (L s) a ∧ TT L R (R s) b := by
  have h' := TT_at h (f := r.length + 1) (by omega)
  rcases h' with h | ⟨s, a, b, e1, e2, e3, e4⟩
  · exact Or.inl h
  · exact Or.inr ⟨s, a, b, e1, e2, TT_of e3, TT_of e4⟩
theorem TT_inv_nat {L R : Nat → Int} {s : Nat} {r : List Nat} (h : TT L R s r) : ∃ (a b : List Nat), r = a ++ s :: b ∧ TT L R (L s) a ∧ TT L R (R s) b := by
  rcases TT_inv h with ⟨e, _⟩ | ⟨s', a, b, e1, e2, e3, e4⟩
  · omega
  · have : s = s' := by omega
    subst this
    exact ⟨a, b, e2, e3, e4⟩
theorem isT_congr {L R L' R' : Nat → Int} : ∀ (f : Nat) (t : Int) (r : List Nat), (∀ y ∈ r, L y = L' y ∧ R y = R' y) → isT L R f t r → isT L' R' f t r := by
  intro f
  induction f with
  | zero => intro t r _ h; exact h
  | succ f ih =>
    intro t r hc h
    rcases h with h | ⟨s, a, b, e1, e2, e3, e4⟩
    · exact Or.inl h
    · subst e2
      have hs := hc s (by simp)
      refine Or.inr ⟨s, a, b, e1, rfl, ?_, ?_⟩
      · rw [← hs.1]; exact ih _ a (fun y hy => hc y (by simp [hy])) e3
      · rw [← hs.2]; exact ih _ b (fun y hy => hc y (by simp [hy])) e4
theorem TT_congr {L R L' R' : Nat → Int} {t : Int} {r : List Nat} (hc : ∀ y ∈ r, L y = L' y ∧ R y = R' y) (h : TT L R t r) : TT L' R' t r := isT_congr _ t r hc h
/-- a way down the right: the stack, its top first, and the row of all but what hangs at the top's right -/
def spW (L R : Nat → Int) : List Nat → List Nat → Prop
  | [], r => r = []
  | s :: st, r => ∃ r0 a, spW L R st r0 ∧ r = r0 ++ (a ++ [s]) ∧ TT L R (L s) a ∧ (match st with | [] => True | s' :: _ => R s' = (s : Int))
def topR (R : Nat → Int) (st : List Nat) (t : Int) : Prop := match st with | [] => True | s :: _ => R s = t
theorem spW_mem {L R : Nat → Int} : ∀ (st r : List Nat), spW L R st r → ∀ s ∈ st, s ∈ r
  | [], r, _, s, hs => by cases hs
  | s :: st, r, ⟨r0, a, h1, e, _⟩, y, hy => by
    subst e
    rcases List.mem_cons.mp hy with rfl | hy
    · simp
    · have := spW_mem st r0 h1 y hy
      simp [this]
theorem spW_len {L R : Nat → Int} : ∀ (st r : List Nat), spW L R st r → st.length ≤ r.length
  | [], r, _ => by simp
  | s :: st, r, ⟨r0, a, h1, e, _⟩ => by
    subst e
    have := spW_len st r0 h1
    simp; omega
theorem popJ_ok {L R : Nat → Int} {w : Nat → Int} {x : Nat} : ∀ (st : List Nat) (t : Int) (r0 rr : List Nat), spW L R st r0 → TT L R t rr → topR R st t →
    ∃ r0' rr', spW L R (popJ w x st t).2 r0' ∧ TT L R (popJ w x st t).1 rr' ∧ topR R (popJ w x st t).2 (popJ w x st t).1 ∧ r0' ++ rr' = r0 ++ rr
  | [], t, r0, rr, h1, h2, h3 => ⟨r0, rr, h1, h2, h3, rfl⟩
  | s :: st, t, r0, rr, h1, h2, h3 => by
    unfold popJ
    by_cases c : hvb w x s = true
    · rw [if_pos c]
      obtain ⟨r1, a, g1, e, g2, g3⟩ := h1
      have h3 : R s = t := h3
      have n1 : TT L R (s : Int) (a ++ s :: rr) := TT_node g2 (by rw [h3]; exact h2)
      obtain ⟨r0', rr', k1, k2, k3, k4⟩ := popJ_ok st s r1 (a ++ s :: rr) g1 n1 (by cases st with | nil => trivial | cons _ _ => exact g3)
      exact ⟨r0', rr', k1, k2, k3, by rw [k4, e]; simp⟩
    · rw [if_neg c]
      exact ⟨r0, rr, h1, h2, h3, rfl⟩
theorem spW_all {L R : Nat → Int} : ∀ (st : List Nat) (t : Int) (r0 rr : List Nat), spW L R st r0 → TT L R t rr → topR R st t → TT L R (match st with | [] => t | _ => botJ st) (r0 ++ rr)
  | [], t, r0, rr, h1, h2, _ => by
    have h1 : r0 = [] := h1
    subst h1; exact h2
  | [s], t, r0, rr, ⟨r1, a, g1, e, g2, g3⟩, h2, h3 => by
    have g1 : r1 = [] := g1
    have h3 : R s = t := h3
    subst g1 e
    have := TT_node g2 (b := rr) (by rw [h3]; exact h2)
    simpa [botJ] using this
  | s :: s' :: st, t, r0, rr, ⟨r1, a, g1, e, g2, g3⟩, h2, h3 => by
    have h3 : R s = t := h3
    have n1 : TT L R (s : Int) (a ++ s :: rr) := TT_node g2 (by rw [h3]; exact h2)
    have := spW_all (s' :: st) s r1 (a ++ s :: rr) g1 n1 g3
    subst e
    show TT L R (botJ (s' :: st)) _
    simpa using this
theorem spW_congr {L R L' R' : Nat → Int} : ∀ (st r : List Nat), r.Nodup → spW L R st r → (∀ y ∈ r, L y = L' y) → (∀ y ∈ r, (match st with | [] => True | s :: _ => y ≠ s) → R y = R' y) → spW L' R' st r
  | [], r, _, h, _, _ => h
  | s :: st, r, hnd, ⟨r0, a, g1, e, g2, g3⟩, hL, hR => by
    subst e
    have hd := List.nodup_append.mp hnd
    have hd2 := List.nodup_append.mp hd.2.1
    have hsa : s ∉ a := fun q => (hd2.2.2 s q s (by simp)) rfl
    have hs0 : s ∉ r0 := fun q => (hd.2.2 s q s (by simp)) rfl
    refine ⟨r0, a, ?_, rfl, ?_, ?_⟩
    · refine spW_congr st r0 hd.1 g1 (fun y hy => hL y (by simp [hy])) (fun y hy _ => hR y (by simp [hy]) (fun q => hs0 (q ▸ hy)))
    · rw [← hL s (by simp)]
      exact TT_congr (fun y hy => ⟨hL y (by simp [hy]), hR y (by simp [hy]) (fun q => hsa (q ▸ hy))⟩) g2
    · cases st with
      | nil => trivial
      | cons s' st =>
        have hm := spW_mem _ _ g1 s' (by simp)
        show R' s' = s
        rw [← hR s' (by simp [hm]) (fun q => hs0 (q ▸ hm))]
        exact g3
def okJ (q : JT) (r : List Nat) : Prop := spW q.1 q.2.1 q.2.2 r ∧ topR q.2.1 q.2.2 (-1) ∧ ∀ x, x ∉ r → q.1 x = -1 ∧ q.2.1 x = -1
theorem stepJ_ok {w : Nat → Int} {q : JT} {r : List Nat} {x : Nat} (hnd : (r ++ [x]).Nodup) (h : okJ q r) : okJ (stepJ w q x) (r ++ [x]) := by
  obtain ⟨h1, h2, h3⟩ := h
  have hx : x ∉ r := fun e => ((List.nodup_append.mp hnd).2.2 x e x (by simp)) rfl
  obtain ⟨r0, rr, k1, k2, k3, k4⟩ := popJ_ok (w := w) (x := x) q.2.2 (-1) r [] h1 (TT_nil _ _) h2
  rw [List.append_nil] at k4
  unfold stepJ okJ
  dsimp only
  generalize popJ w x q.2.2 (-1) = pq at *
  obtain ⟨t, st⟩ := pq
  dsimp only at *
  have hnr : r.Nodup := (List.nodup_append.mp hnd).1
  rw [← k4] at hnr
  have hn0 := List.nodup_append.mp hnr
  have hx0 : x ∉ r0 ∧ x ∉ rr := ⟨fun e => hx (by rw [← k4]; simp [e]), fun e => hx (by rw [← k4]; simp [e])⟩
  have eL : ∀ y, y ≠ x → q.1 y = updI q.1 x t y := fun y hy => by unfold updI; rw [if_neg hy]
  have eR : ∀ y, (match st with | [] => True | s :: _ => y ≠ s) → q.2.1 y = hangR q.2.1 st x y := fun y hy => by
    unfold hangR
    cases st with
    | nil => rfl
    | cons s st => show _ = updI _ _ _ _; unfold updI; rw [if_neg hy]
  have eX : ∀ s st', st = s :: st' → s ∈ r0 := fun s st' e => spW_mem _ _ k1 s (by rw [e]; simp)
  refine ⟨⟨r0, rr, ?_, by rw [← List.append_assoc, k4], ?_, ?_⟩, ?_, fun y hy => ?_⟩
  · exact spW_congr st r0 hn0.1 k1 (fun y hy => eL y (fun e => hx0.1 (e ▸ hy))) (fun y hy hne => eR y hne)
  · have : updI q.1 x t x = t := by unfold updI; rw [if_pos rfl]
    rw [this]
    refine TT_congr (fun y hy => ⟨eL y (fun e => hx0.2 (e ▸ hy)), eR y ?_⟩) k2
    cases st with
    | nil => trivial
    | cons s st =>
      intro e
      exact hn0.2.2 s (eX s st rfl) y hy e.symm
  · cases st with
    | nil => trivial
    | cons s st => show updI _ _ _ s = _; unfold updI; rw [if_pos rfl]
  · show hangR q.2.1 st x x = -1
    rw [← eR x ?_]
    · exact (h3 x hx).2
    · cases st with
      | nil => trivial
      | cons s st => exact fun e => hx0.1 (e ▸ eX s st rfl)
  · have hyr : y ∉ r := fun e => hy (by simp [e])
    have hyx : y ≠ x := fun e => hy (by simp [e])
    rw [← eL y hyx, ← eR y ?_]
    · exact h3 y hyr
    · cases st with
      | nil => trivial
      | cons s st => exact fun e => hyr (by rw [← k4]; simp [e, eX s st rfl])
theorem joinJ_ok (w : Nat → Int) (r : List Nat) (hnd : r.Nodup) : okJ (joinJ w r) r := by
  have key : ∀ (b a : List Nat) (q : JT), (a ++ b).Nodup → okJ q a → okJ (b.foldl (stepJ w) q) (a ++ b) := by
    intro b
    induction b with
    | nil => intro a q _ h; simpa using h
    | cons x b ih =>
      intro a q hn h
      have e : a ++ x :: b = (a ++ [x]) ++ b := by simp
      rw [e] at hn ⊢
      exact ih (a ++ [x]) _ hn (stepJ_ok (List.nodup_append.mp hn).1 h)
  have := key r [] (fun _ => -1, fun _ => -1, []) (by simpa using hnd) ⟨rfl, trivial, fun x _ => ⟨rfl, rfl⟩⟩
  simpa [joinJ] using this
def tL (w : Nat → Int) (r : List Nat) : Nat → Int := (joinJ w r).1
def tR (w : Nat → Int) (r : List Nat) : Nat → Int := (joinJ w r).2.1
def tRoot (w : Nat → Int) (r : List Nat) : Int := botJ (joinJ w r).2.2
theorem joinJ_TT (w : Nat → Int) (r : List Nat) (hnd : r.Nodup) : TT (tL w r) (tR w r) (tRoot w r) r := by
  obtain ⟨h1, h2, _⟩ := joinJ_ok w r hnd
  have := spW_all _ (-1) r [] h1 (TT_nil _ _) h2
  unfold tRoot tL tR
  cases e : (joinJ w r).2.2 with
  | nil => rw [e] at this; simpa [botJ] using this
  | cons s st => rw [e] at this; simpa using this
-- orders
def preT (L R : Nat → Int) : Nat → Int → List Nat
  | 0, _ => []
  | f + 1, t => if t < 0 then [] else t.toNat :: (preT L R f (L t.toNat) ++ preT L R f (R t.toNat))
def hgtT (L R : Nat → Int) : Nat → Int → Nat
  | 0, _ => 0
  | f + 1, t => if t < 0 then 0 else 1 + max (hgtT L R f (L t.toNat)) (hgtT L R f (R t.toNat))
theorem preT_fuel {L R : Nat → Int} : ∀ (f g : Nat) (t : Int) (r : List Nat), isT L R f t r → f ≤ g → preT L R g t = preT L R f t ∧ hgtT L R g t = hgtT L R f t := by
  intro f
  induction f with
  | zero =>
    intro g t r h _
    obtain ⟨rfl, rfl⟩ := h
    cases g <;> exact ⟨rfl, rfl⟩
  | succ f ih =>
    intro g t r h hg
    obtain ⟨g, rfl⟩ : ∃ g', g = g' + 1 := ⟨g - 1, by omega⟩
    rcases h with ⟨rfl, rfl⟩ | ⟨s, a, b, rfl, e2, e3, e4⟩
    · exact ⟨rfl, rfl⟩
    · unfold preT hgtT
      rw [Int.toNat_natCast, (ih g _ a e3 (by omega)).1, (ih g _ b e4 (by omega)).1, (ih g _ a e3 (by omega)).2, (ih g _ b e4 (by omega)).2]
      exact ⟨rfl, rfl⟩
def pre8 (L R : Nat → Int) (t : Int) : List Nat := preT L R 8 t
def hgt8 (L R : Nat → Int) (t : Int) : Nat := hgtT L R 8 t
theorem pre8_nil (L R : Nat → Int) : pre8 L R (-1) = [] ∧ hgt8 L R (-1) = 0 := ⟨rfl, rfl⟩
theorem pre8_node {L R : Nat → Int} {s : Nat} {a b : List Nat} (h1 : TT L R (L s) a) (h2 : TT L R (R s) b) (hl : a.length + b.length < 8) :
    pre8 L R s = s :: (pre8 L R (L s) ++ pre8 L R (R s)) ∧ hgt8 L R s = 1 + max (hgt8 L R (L s)) (hgt8 L R (R s)) := by
  unfold pre8 hgt8
  have k1 := preT_fuel 7 8 (L s) a (TT_at h1 (by omega)) (by omega)
  have k2 := preT_fuel 7 8 (R s) b (TT_at h2 (by omega)) (by omega)
  rw [k1.1, k2.1, k1.2, k2.2]
  constructor
  · show (if (s : Int) < 0 then [] else _) = _
    rw [if_neg (by omega), Int.toNat_natCast]
  · show (if (s : Int) < 0 then 0 else _) = _
    rw [if_neg (by omega), Int.toNat_natCast]
theorem pre8_perm {L R : Nat → Int} : ∀ (n : Nat) (t : Int) (r : List Nat), r.length ≤ n → r.length ≤ 8 → TT L R t r → (pre8 L R t).Perm r := by
  intro n
  induction n with
  | zero =>
    intro t r hn _ h
    have hr : r = [] := List.eq_nil_of_length_eq_zero (by omega)
    subst hr
    rcases TT_inv h with ⟨rfl, _⟩ | ⟨s, a, b, _, e, _⟩
    · exact List.Perm.refl _
    · have := congrArg List.length e
      simp at this
  | succ n ih =>
    intro t r hn h8 h
    rcases TT_inv h with ⟨rfl, rfl⟩ | ⟨s, a, b, rfl, rfl, e3, e4⟩
    · exact List.Perm.refl _
    · have hl : (a ++ s :: b).length = a.length + b.length + 1 := by simp; omega
      rw [(pre8_node e3 e4 (by omega)).1]
      have p1 := ih _ a (by omega) (by omega) e3
      have p2 := ih _ b (by omega) (by omega) e4
      exact ((p1.append p2).cons s).trans List.perm_middle.symm
theorem TT_swap {L R : Nat → Int} : ∀ (n : Nat) (t : Int) (r : List Nat), r.length ≤ n → TT L R t r → TT R L t r.reverse := by
  intro n
  induction n with
  | zero =>
    intro t r hn h
    have hr : r = [] := List.eq_nil_of_length_eq_zero (by omega)
    subst hr
    rcases TT_inv h with ⟨rfl, _⟩ | ⟨s, a, b, _, e, _⟩
    · exact TT_nil _ _
    · have := congrArg List.length e
      simp at this
  | succ n ih =>
    intro t r hn h
    rcases TT_inv h with ⟨rfl, rfl⟩ | ⟨s, a, b, rfl, rfl, e3, e4⟩
    · exact TT_nil _ _
    · have hl : (a ++ s :: b).length = a.length + b.length + 1 := by simp; omega
      have := TT_node (ih _ b (by omega) e4) (ih _ a (by omega) e3)
      simpa using this
def post8 (L R : Nat → Int) (t : Int) : List Nat := (pre8 R L t).reverse
theorem post8_nil (L R : Nat → Int) : post8 L R (-1) = [] := rfl
theorem post8_node {L R : Nat → Int} {s : Nat} {a b : List Nat} (h1 : TT L R (L s) a) (h2 : TT L R (R s) b) (hl : a.length + b.length < 8) :
    post8 L R s = post8 L R (L s) ++ (post8 L R (R s) ++ [s]) := by
  unfold post8
  rw [(pre8_node (TT_swap _ _ _ (Nat.le_refl _) h2) (TT_swap _ _ _ (Nat.le_refl _) h1) (by simp; omega)).1]
  simp
/-- each behind its subtrees -/
def postC (L R : Nat → Int) : List Nat → List Nat → Prop
  | [], _ => True
  | s :: l, d => (L s = -1 ∨ ∃ y : Nat, L s = (y : Int) ∧ y ∈ d) ∧ (R s = -1 ∨ ∃ y : Nat, R s = (y : Int) ∧ y ∈ d) ∧ postC L R l (d ++ [s])
theorem postC_app {L R : Nat → Int} : ∀ (l l' d : List Nat), postC L R l d → postC L R l' (d ++ l) → postC L R (l ++ l') d
  | [], l', d, _, h => by simpa using h
  | s :: l, l', d, ⟨h1, h2, h3⟩, h => ⟨h1, h2, postC_app l l' _ h3 (by simpa using h)⟩
theorem post8_root {L R : Nat → Int} {t : Int} {r : List Nat} (h8 : r.length ≤ 8) (h : TT L R t r) : t = -1 ∨ ∃ y : Nat, t = (y : Int) ∧ y ∈ post8 L R t := by
  rcases TT_inv h with ⟨rfl, rfl⟩ | ⟨s, a, b, rfl, rfl, e3, e4⟩
  · exact Or.inl rfl
  · have hl : (a ++ s :: b).length = a.length + b.length + 1 := by simp; omega
    exact Or.inr ⟨s, rfl, by rw [post8_node e3 e4 (by omega)]; simp⟩
theorem post8_C {L R : Nat → Int} : ∀ (n : Nat) (t : Int) (r d : List Nat), r.length ≤ n → r.length ≤ 8 → TT L R t r → postC L R (post8 L R t) d := by
  intro n
  induction n with
  | zero =>
    intro t r d hn _ h
    have hr : r = [] := List.eq_nil_of_length_eq_zero (by omega)
    subst hr
    rcases TT_inv h with ⟨rfl, _⟩ | ⟨s, a, b, _, e, _⟩
    · exact trivial
    · have := congrArg List.length e
      simp at this
  | succ n ih =>
    intro t r d hn h8 h
    rcases TT_inv h with ⟨rfl, rfl⟩ | ⟨s, a, b, rfl, rfl, e3, e4⟩
    · exact trivial
    · have hl : (a ++ s :: b).length = a.length + b.length + 1 := by simp; omega
      rw [post8_node e3 e4 (by omega)]
      refine postC_app _ _ _ (ih _ a d (by omega) (by omega) e3) (postC_app _ _ _ (ih _ b _ (by omega) (by omega) e4) ⟨?_, ?_, trivial⟩)
      · rcases post8_root (by omega) e3 with e | ⟨y, e, hy⟩
        · exact Or.inl e
        · exact Or.inr ⟨y, e, by simp [hy]⟩
      · rcases post8_root (by omega) e4 with e | ⟨y, e, hy⟩
        · exact Or.inl e
        · exact Or.inr ⟨y, e, by simp [hy]⟩
theorem post8_perm {L R : Nat → Int} {t : Int} {r : List Nat} (h8 : r.length ≤ 8) (h : TT L R t r) : (post8 L R t).Perm r := by
  unfold post8
  have h' := TT_swap _ _ _ (Nat.le_refl _) h
  have := pre8_perm _ _ _ (Nat.le_refl _) (by simpa using h8) h'
  exact (List.reverse_perm _).trans (this.trans (List.reverse_perm _))
theorem postC_at {L R : Nat → Int} : ∀ (l d : List Nat) (i : Nat) (s : Nat), postC L R l d → l[i]? = some s → (L s = -1 ∨ ∃ y : Nat, L s = (y : Int) ∧ y ∈ d ++ l.take i) ∧ (R s = -1 ∨ ∃ y : Nat, R s = (y : Int) ∧ y ∈ d ++ l.take i)
  | [], d, i, s, _, e => by simp at e
  | x :: l, d, 0, s, ⟨h1, h2, _⟩, e => by
    simp at e
    subst e
    simpa using ⟨h1, h2⟩
  | x :: l, d, i + 1, s, ⟨_, _, h3⟩, e => by
    have := postC_at l (d ++ [x]) i s h3 (by simpa using e)
    simpa using this
