/-! LEVEL 3, e: the row of a set of segments over a place (pure) -/
def hib (g : Sg) (a b : Nat) (x : Int) : Bool := decide (0 < gD g a b x) || (decide (gD g a b x = 0) && decide (0 < gS g a b))
theorem hib_iff {g : Sg} {a b : Nat} {x : Int} : hib g a b x = true ↔ hiP g a b x := by
  unfold hib hiP
  simp
def insPos (h : Nat → Nat → Bool) (s : Nat) (r : List Nat) : Nat → Nat
  | 0 => 0
  | k + 1 => if h (r.getD k 0) s = true then insPos h s r k else k + 1
def insR (h : Nat → Nat → Bool) (r : List Nat) (s : Nat) : List Nat := r.take (insPos h s r r.length) ++ s :: r.drop (insPos h s r r.length)
def rowF (g : Sg) (m : Nat) (x : Int) : List Nat := (mem8 m).foldl (insR (fun a b => hib g a b x)) []
theorem insPos_le (h : Nat → Nat → Bool) (s : Nat) (r : List Nat) : ∀ k, insPos h s r k ≤ k
  | 0 => Nat.le_refl _
  | k + 1 => by
    unfold insPos
    have := insPos_le h s r k
    split <;> omega
theorem insPos_up (h : Nat → Nat → Bool) (s : Nat) (r : List Nat) : ∀ k j, insPos h s r k ≤ j → j < k → h (r.getD j 0) s = true
  | 0, j, _, hj => by omega
  | k + 1, j, h1, hj => by
    unfold insPos at h1
    by_cases c : h (r.getD k 0) s = true
    · rw [if_pos c] at h1
      by_cases e : j = k
      · rw [e]; exact c
      · exact insPos_up h s r k j h1 (by omega)
    · rw [if_neg c] at h1
      omega
theorem insPos_dn (h : Nat → Nat → Bool) (s : Nat) (r : List Nat) : ∀ k, insPos h s r k = 0 ∨ ¬ h (r.getD (insPos h s r k - 1) 0) s = true
  | 0 => Or.inl rfl
  | k + 1 => by
    unfold insPos
    by_cases c : h (r.getD k 0) s = true
    · rw [if_pos c]
      exact insPos_dn h s r k
    · rw [if_neg c]
      exact Or.inr (by simpa using c)
theorem insR_perm (h : Nat → Nat → Bool) (r : List Nat) (s : Nat) : (insR h r s).Perm (s :: r) := by
  unfold insR
  refine List.perm_middle.trans ?_
  rw [List.take_append_drop]
theorem insR_len (h : Nat → Nat → Bool) (r : List Nat) (s : Nat) : (insR h r s).length = r.length + 1 := (insR_perm h r s).length_eq
def srtR (h : Nat → Nat → Bool) (r : List Nat) : Prop := r.Pairwise (fun a b => h b a = true)
theorem srtR_get {h : Nat → Nat → Bool} {r : List Nat} (hs : srtR h r) {i j : Nat} (hij : i < j) (hj : j < r.length) : h (r.getD j 0) (r.getD i 0) = true := by
  have := List.pairwise_iff_getElem.mp hs i j (by omega) hj hij
  simp [List.getD_eq_getElem?_getD, hj, show i < r.length by omega, this]
theorem insR_srt {h : Nat → Nat → Bool} {r : List Nat} {s : Nat} (hs : srtR h r) (ht : ∀ a ∈ r, h a s = true ∨ h s a = true) (hr : ∀ a b, a ∈ r → b ∈ r → h s b = true → h b a = true → h s a = true) : srtR h (insR h r s) := by
  unfold insR
  generalize hp : insPos h s r r.length = p
  have hpl : p ≤ r.length := by rw [← hp]; exact insPos_le h s r _
  have e : r.take p ++ r.drop p = r := List.take_append_drop p r
  have hs' := hs
  unfold srtR at hs' ⊢
  rw [← e] at hs'
  obtain ⟨q1, q2, q3⟩ := List.pairwise_append.mp hs'
  have memg : ∀ i, i < r.length → r.getD i 0 ∈ r := fun i hi => by
    simp [List.getD_eq_getElem?_getD, hi]
  have hA : ∀ a ∈ r.take p, h s a = true := fun a ha => by
    obtain ⟨i, hi, rfl⟩ := List.mem_iff_getElem.mp ha
    rw [List.length_take] at hi
    have hg : (r.take p)[i]'(by rw [List.length_take]; exact hi) = r.getD i 0 := by
      simp [List.getD_eq_getElem?_getD, show i < r.length by omega]
    rw [hg]
    rcases insPos_dn h s r r.length with h0 | h0
    · omega
    · rw [hp] at h0
      have hm := memg (p - 1) (by omega)
      have h1 : h s (r.getD (p - 1) 0) = true := (ht _ hm).resolve_left h0
      by_cases c : i = p - 1
      · rw [c]; exact h1
      · exact hr _ _ (memg i (by omega)) hm h1 (srtR_get hs (by omega) (by omega))
  have hB : ∀ b ∈ r.drop p, h b s = true := fun b hb => by
    obtain ⟨i, hi, rfl⟩ := List.mem_iff_getElem.mp hb
    rw [List.length_drop] at hi
    have hg : (r.drop p)[i]'(by rw [List.length_drop]; exact hi) = r.getD (p + i) 0 := by
      simp [List.getD_eq_getElem?_getD, show p + i < r.length by omega]
    rw [hg]
    exact insPos_up h s r r.length (p + i) (by omega) (by omega)
  refine List.pairwise_append.mpr ⟨q1, List.pairwise_cons.mpr ⟨hB, q2⟩, fun a ha b hb => ?_⟩
  rcases List.mem_cons.mp hb with rfl | hb
  · exact hA a ha
  · exact q3 a ha b hb
theorem mem8_nodup (m : Nat) : (mem8 m).Nodup := List.Pairwise.filter _ List.nodup_range
/-- the segments of a set are over a place -/
def Over (g : Sg) (n m : Nat) (x : Int) : Prop := m < 256 ∧ ∀ k, m.testBit k = true → k < n ∧ ovP g k x
theorem hib_tot {g : Sg} {n : Nat} (hg : OkSeg g n) {x : Int} {a b : Nat} (ha : a < n) (hb : b < n) (hab : a ≠ b) (oa : ovP g a x) (ob : ovP g b x) : hib g a b x = true ∨ hib g b a x = true := by
  rw [hib_iff, hib_iff]
  exact hi_tot (hg.2.2 a b ha hb hab) oa ob
theorem rowF_ok {g : Sg} {n m : Nat} {x : Int} (hg : OkSeg g n) (ho : Over g n m x) : (rowF g m x).Perm (mem8 m) ∧ srtR (fun a b => hib g a b x) (rowF g m x) := by
  have key : ∀ (b a : List Nat), (∀ y ∈ a ++ b, y < n ∧ ovP g y x) → (a ++ b).Nodup → ∀ r, r.Perm a → srtR (fun a b => hib g a b x) r →
      (b.foldl (insR (fun a b => hib g a b x)) r).Perm (a ++ b) ∧ srtR (fun a b => hib g a b x) (b.foldl (insR (fun a b => hib g a b x)) r) := by
    intro b
    induction b with
    | nil => intro a _ _ r hr hs; simpa using ⟨hr, hs⟩
    | cons s b ih =>
      intro a ha hn r hr hs
      have e : a ++ s :: b = (a ++ [s]) ++ b := by simp
      rw [e] at ha hn ⊢
      refine ih (a ++ [s]) ha hn _ ((insR_perm _ r s).trans ?_) ?_
      · exact ((hr.cons s).trans (List.perm_append_singleton s a).symm)
      · have hs1 := ha s (by simp)
        have hmem : ∀ y ∈ r, y < n ∧ ovP g y x ∧ y ≠ s := fun y hy => by
          have hy' : y ∈ a := hr.mem_iff.mp hy
          have h1 := ha y (by simp [hy'])
          refine ⟨h1.1, h1.2, fun q => ?_⟩
          have h2 := (List.nodup_append.mp (List.nodup_append.mp hn).1).2.2 y hy' s (by simp)
          exact h2 q
        refine insR_srt hs (fun y hy => ?_) (fun y z hy hz h1 h2 => ?_)
        · obtain ⟨m1, m2, m3⟩ := hmem y hy
          exact hib_tot hg m1 hs1.1 m3 m2 hs1.2
        · obtain ⟨m1, m2, m3⟩ := hmem y hy
          obtain ⟨k1, k2, k3⟩ := hmem z hz
          have h1 := hib_iff.mp h1
          have h2 := hib_iff.mp h2
          exact hib_iff.mpr (hi_trans (gW_pos (hg.2.1 s hs1.1)).1 (gW_pos (hg.2.1 z k1)).1 (gW_pos (hg.2.1 y m1)).1 h1 h2)
  have := key (mem8 m) [] (fun y hy => by
    have := mem8_mem.mp (by simpa using hy)
    exact ho.2 y this.2) (by simpa using mem8_nodup m) [] (List.Perm.refl _) List.Pairwise.nil
  simpa [rowF] using this
theorem rowF_mem {g : Sg} {n m : Nat} {x : Int} (hg : OkSeg g n) (ho : Over g n m x) {k : Nat} : k ∈ rowF g m x ↔ m.testBit k = true := by
  rw [(rowF_ok hg ho).1.mem_iff, mem8_mem]
  constructor
  · exact fun h => h.2
  · intro h
    have := (ho.2 k h).1
    have := hg.1
    exact ⟨by omega, h⟩
theorem rowF_len {g : Sg} {n m : Nat} {x : Int} (hg : OkSeg g n) (ho : Over g n m x) : (rowF g m x).length = pc m := (rowF_ok hg ho).1.length_eq
theorem pc_le (m : Nat) : pc m ≤ 8 := by
  unfold pc mem8
  have := List.length_filter_le (fun k => m.testBit k) (List.range 8)
  simpa using this
theorem rowF_nodup {g : Sg} {n m : Nat} {x : Int} (hg : OkSeg g n) (ho : Over g n m x) : (rowF g m x).Nodup := (rowF_ok hg ho).1.nodup_iff.mpr (mem8_nodup m)
/-- at another place over which all of them are the row is the same -/
theorem srtR_at {g : Sg} {n m : Nat} {x y : Int} (hg : OkSeg g n) (ho : Over g n m x) (ho' : Over g n m y) : srtR (fun a b => hib g a b y) (rowF g m x) := by
  have h := (rowF_ok hg ho).2
  have hn := rowF_nodup hg ho
  unfold srtR at h ⊢
  refine List.Pairwise.imp_of_mem ?_ (List.Pairwise.and h hn)
  intro a b ha hb hab
  obtain ⟨h1, h2⟩ := hab
  have ma := (rowF_mem hg ho).mp ha
  have mb := (rowF_mem hg ho).mp hb
  have oa := ho.2 a ma
  have ob := ho.2 b mb
  exact hib_iff.mpr ((hi_two (hg.2.2 b a ob.1 oa.1 (fun e => h2 e.symm)) ob.2 oa.2 (ho'.2 b mb).2 (ho'.2 a ma).2).mp (hib_iff.mp h1))
theorem rowF_pos {g : Sg} {n m : Nat} {x : Int} (hg : OkSeg g n) (ho : Over g n m x) {i k lo : Nat} (hi : (rowF g m x)[i]? = some k) (hl : lowB g n k lo) : pc (lo &&& m) = i := by
  obtain ⟨hp, hs⟩ := rowF_ok hg ho
  have hn := rowF_nodup hg ho
  have hil := (List.getElem?_eq_some_iff.mp hi).1
  have e : rowF g m x = (rowF g m x).take i ++ k :: (rowF g m x).drop (i + 1) := by
    have h2 : (rowF g m x)[i] = k := (List.getElem?_eq_some_iff.mp hi).2
    rw [← h2, List.getElem_cons_drop, List.take_append_drop]
  have e1 : pc (lo &&& m) = (rowF g m x).countP (fun j => lo.testBit j) := by
    rw [hp.countP_eq, List.countP_eq_length_filter]
    unfold pc mem8
    rw [List.filter_filter]
    simp only [Nat.testBit_and]
  have hk : ∀ j, j ∈ rowF g m x → (lo.testBit j = true ↔ (j ≠ k ∧ hiP g k j x)) := fun j hj => by
    have mk : m.testBit k = true := (rowF_mem hg ho).mp (List.mem_of_getElem? hi)
    have mj : m.testBit j = true := (rowF_mem hg ho).mp hj
    have ok := ho.2 k mk
    have oj := ho.2 j mj
    rw [hl.2 j]
    constructor
    · rintro ⟨h1, h2, h3, h4, h5⟩
      exact ⟨h2, (hi_lo (hg.2.2 k j ok.1 oj.1 (fun q => h2 q.symm)) ok.2 oj.2).mpr h5⟩
    · rintro ⟨h2, h5⟩
      have hlo := gLo_ov ok.2 oj.2
      exact ⟨oj.1, h2, hlo.1, hlo.2, (hi_lo (hg.2.2 k j ok.1 oj.1 (fun q => h2 q.symm)) ok.2 oj.2).mp h5⟩
  rw [e1]
  have hs2 := hs
  have hn2 := hn
  unfold srtR at hs2
  rw [e] at hs2 hn2
  obtain ⟨s1, s2, s3⟩ := List.pairwise_append.mp hs2
  obtain ⟨s4, s5⟩ := List.pairwise_cons.mp s2
  have hn3 := List.nodup_append.mp hn2
  rw [e, List.countP_append, List.countP_cons]
  have c1 : ((rowF g m x).take i).countP (fun j => lo.testBit j) = ((rowF g m x).take i).length := by
    refine List.countP_eq_length.mpr (fun j hj => ?_)
    exact (hk j (List.mem_of_mem_take hj)).mpr ⟨fun q => hn3.2.2 j hj k (by simp) q, hib_iff.mp (s3 j hj k (by simp))⟩
  have c2 : ((rowF g m x).drop (i + 1)).countP (fun j => lo.testBit j) = 0 := by
    refine List.countP_eq_zero.mpr (fun j hj q => ?_)
    exact hi_asym ((hk j (List.mem_of_mem_drop hj)).mp q).2 (hib_iff.mp (s4 j hj))
  have c3 : ¬ lo.testBit k = true := fun q => ((hk k (List.mem_of_getElem? hi)).mp q).1 rfl
  rw [c1, c2, if_neg c3, List.length_take]
  omega
