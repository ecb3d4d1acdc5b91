/-! LISTS IN ORDER: what lies below a key and what doesn't -/
def Srt {α : Type} (f : α → Nat) (l : List α) : Prop := l.Pairwise (fun a b => f a < f b)
def lo {α : Type} (f : α → Nat) (x : Nat) (l : List α) : List α := l.filter (fun a => decide (f a < x))
def hi {α : Type} (f : α → Nat) (x : Nat) (l : List α) : List α := l.filter (fun a => decide (x ≤ f a))
theorem mem_lo {α : Type} {f : α → Nat} {x : Nat} {l : List α} {a : α} : a ∈ lo f x l ↔ a ∈ l ∧ f a < x := by unfold lo; rw [List.mem_filter, decide_eq_true_iff]
theorem mem_hi {α : Type} {f : α → Nat} {x : Nat} {l : List α} {a : α} : a ∈ hi f x l ↔ a ∈ l ∧ x ≤ f a := by unfold hi; rw [List.mem_filter, decide_eq_true_iff]
theorem lo_all {α : Type} {f : α → Nat} {x : Nat} {l : List α} (h : ∀ a ∈ l, f a < x) : lo f x l = l := List.filter_eq_self.mpr fun a ha => decide_eq_true (h a ha)
theorem hi_all {α : Type} {f : α → Nat} {x : Nat} {l : List α} (h : ∀ a ∈ l, x ≤ f a) : hi f x l = l := List.filter_eq_self.mpr fun a ha => decide_eq_true (h a ha)
theorem lo_none {α : Type} {f : α → Nat} {x : Nat} {l : List α} (h : ∀ a ∈ l, x ≤ f a) : lo f x l = [] := List.filter_eq_nil_iff.mpr fun a ha => by
  have := h a ha
  rw [decide_eq_true_iff]; omega
theorem hi_none {α : Type} {f : α → Nat} {x : Nat} {l : List α} (h : ∀ a ∈ l, f a < x) : hi f x l = [] := List.filter_eq_nil_iff.mpr fun a ha => by
  have := h a ha
  rw [decide_eq_true_iff]; omega
theorem lo_app {α : Type} {f : α → Nat} {x : Nat} {l k : List α} : lo f x (l ++ k) = lo f x l ++ lo f x k := List.filter_append ..
theorem hi_app {α : Type} {f : α → Nat} {x : Nat} {l k : List α} : hi f x (l ++ k) = hi f x l ++ hi f x k := List.filter_append ..
theorem lo_len {α : Type} (f : α → Nat) (x : Nat) (l : List α) : (lo f x l).length ≤ l.length := List.length_filter_le ..
theorem lo_mono {α : Type} {f : α → Nat} {x y : Nat} (l : List α) (h : x ≤ y) : (lo f x l).length ≤ (lo f y l).length := by
  induction l with
  | nil => exact Nat.le_refl _
  | cons a l ih =>
    unfold lo at ih ⊢
    simp only [List.filter_cons]
    by_cases h1 : f a < x
    · have h2 : f a < y := by omega
      simp only [h1, h2, decide_true, if_true, List.length_cons]
      omega
    · by_cases h2 : f a < y
      · simp only [h1, h2, decide_true, decide_false, if_true, List.length_cons]
        simp only [Bool.false_eq_true, if_false]
        omega
      · simp only [h1, h2, decide_false, Bool.false_eq_true, if_false]
        exact ih
theorem Srt.app {α : Type} {f : α → Nat} {l k : List α} (h : Srt f (l ++ k)) : Srt f l ∧ Srt f k ∧ ∀ a ∈ l, ∀ b ∈ k, f a < f b := List.pairwise_append.mp h
theorem Srt.mk {α : Type} {f : α → Nat} {l k : List α} (h1 : Srt f l) (h2 : Srt f k) (h : ∀ a ∈ l, ∀ b ∈ k, f a < f b) : Srt f (l ++ k) := List.pairwise_append.mpr ⟨h1, h2, h⟩
theorem Srt.filter {α : Type} {f : α → Nat} {l : List α} (h : Srt f l) (p : α → Bool) : Srt f (l.filter p) := List.Pairwise.filter p h
theorem Srt.split {α : Type} {f : α → Nat} {l : List α} (h : Srt f l) (x : Nat) : lo f x l ++ hi f x l = l := by
  induction l with
  | nil => rfl
  | cons a l ih =>
    have h1 := List.pairwise_cons.mp h
    by_cases ha : f a < x
    · have e1 : lo f x (a :: l) = a :: lo f x l := List.filter_cons_of_pos (decide_eq_true ha)
      have e2 : hi f x (a :: l) = hi f x l := List.filter_cons_of_neg (by rw [decide_eq_true_iff]; omega)
      rw [e1, e2, List.cons_append, ih h1.2]
    · have e : ∀ b ∈ a :: l, x ≤ f b := fun b hb => by
        rcases List.mem_cons.mp hb with rfl | hb
        · omega
        · have := h1.1 b hb
          omega
      rw [lo_none e, hi_all e]; rfl
theorem Srt.ix {α : Type} {f : α → Nat} {l : List α} (h : Srt f l) (x : Nat) {j : Nat} {a : α} (hj : l[j]? = some a) : f a < x ↔ j < (lo f x l).length := by
  have e := h.split x
  rw [← e] at hj
  by_cases hl : j < (lo f x l).length
  · rw [List.getElem?_append_left hl] at hj
    exact ⟨fun _ => hl, fun _ => (mem_lo.mp (List.mem_of_getElem? hj)).2⟩
  · rw [List.getElem?_append_right (by omega)] at hj
    have := (mem_hi.mp (List.mem_of_getElem? hj)).2
    exact ⟨fun q => by omega, fun q => absurd q hl⟩
theorem Srt.lo_take {α : Type} {f : α → Nat} {l : List α} (h : Srt f l) (x : Nat) : l.take (lo f x l).length = lo f x l := by
  conv => lhs; rw [← h.split x]
  rw [List.take_left' (by rw [h.split x])]
theorem Srt.hi_drop {α : Type} {f : α → Nat} {l : List α} (h : Srt f l) (x : Nat) : l.drop (lo f x l).length = hi f x l := by
  conv => lhs; rw [← h.split x]
  rw [List.drop_left' (by rw [h.split x])]
/-- a key stands at one place at most -/
theorem Srt.one {α : Type} {f : α → Nat} {l : List α} (h : Srt f l) {a b : α} (ha : a ∈ l) (hb : b ∈ l) (e : f a = f b) : a = b := by
  induction l with
  | nil => exact absurd ha List.not_mem_nil
  | cons c l ih =>
    have h1 := List.pairwise_cons.mp h
    rcases List.mem_cons.mp ha with q | q <;> rcases List.mem_cons.mp hb with r | r
    · rw [q, r]
    · have := h1.1 b r
      rw [q] at e
      omega
    · have := h1.1 a q
      rw [r] at e
      omega
    · exact ih h1.2 q r
/-- the one that stands at a key stands right behind what lies below -/
theorem Srt.at {α : Type} {f : α → Nat} {l : List α} (h : Srt f l) {a : α} (ha : a ∈ l) : l[(lo f (f a) l).length]? = some a := by
  obtain ⟨j, hj⟩ := List.getElem?_of_mem ha
  have h1 : ¬ j < (lo f (f a) l).length := fun q => Nat.lt_irrefl _ ((h.ix (f a) hj).mpr q)
  have hl := (List.getElem?_eq_some_iff.mp hj).1
  obtain ⟨b, hb⟩ : ∃ b, l[(lo f (f a) l).length]? = some b := ⟨_, List.getElem?_eq_getElem (by omega)⟩
  have h2 : ¬ f b < f a := fun q => Nat.lt_irrefl _ ((h.ix (f a) hb).mp q)
  have h3 : ¬ f a < f b := fun q => by
    have := (h.ix (f b) hj).mp q
    have h4 : ¬ (lo f (f a) l).length < (lo f (f b) l).length := fun z => by
      have := (h.ix (f b) hb).mpr z
      omega
    have h5 := lo_mono (f := f) l (Nat.le_of_lt q)
    omega
  rw [hb, h.one (List.mem_of_getElem? hb) ha (by omega)]
/-- two lists in order of the same members are one -/
theorem Srt.ext {α : Type} {f : α → Nat} : ∀ {l k : List α}, Srt f l → Srt f k → (∀ a, a ∈ l ↔ a ∈ k) → l = k
  | [], [], _, _, _ => rfl
  | [], b :: k, _, _, e => absurd ((e b).mpr List.mem_cons_self) List.not_mem_nil
  | a :: l, [], _, _, e => absurd ((e a).mp List.mem_cons_self) List.not_mem_nil
  | a :: l, b :: k, h1, h2, e => by
    have g1 := List.pairwise_cons.mp h1
    have g2 := List.pairwise_cons.mp h2
    have hab : a = b := by
      rcases List.mem_cons.mp ((e a).mp List.mem_cons_self) with r | r
      · exact r
      · rcases List.mem_cons.mp ((e b).mpr List.mem_cons_self) with q | q
        · exact q.symm
        · have := g1.1 b q
          have := g2.1 a r
          omega
    subst hab
    have := Srt.ext g1.2 g2.2 (fun c => ⟨fun hc => by
      rcases List.mem_cons.mp ((e c).mp (List.mem_cons_of_mem _ hc)) with r | r
      · subst r
        have := g1.1 c hc
        omega
      · exact r, fun hc => by
      rcases List.mem_cons.mp ((e c).mpr (List.mem_cons_of_mem _ hc)) with r | r
      · subst r
        have := g2.1 c hc
        omega
      · exact r⟩)
    rw [this]
/-- with a member put in, or in the place of one with its key -/
def ins {α : Type} (f : α → Nat) (a : α) (l : List α) : List α := lo f (f a) l ++ a :: hi f (f a + 1) l
/-- without the member of a key -/
def del {α : Type} (f : α → Nat) (x : Nat) (l : List α) : List α := l.filter (fun a => decide (f a ≠ x))
theorem mem_del {α : Type} {f : α → Nat} {x : Nat} {l : List α} {a : α} : a ∈ del f x l ↔ a ∈ l ∧ f a ≠ x := by unfold del; rw [List.mem_filter, decide_eq_true_iff]
theorem mem_ins {α : Type} {f : α → Nat} {l : List α} {a b : α} : b ∈ ins f a l ↔ b = a ∨ (b ∈ l ∧ f b ≠ f a) := by
  unfold ins
  rw [List.mem_append, List.mem_cons, mem_lo, mem_hi]
  constructor
  · rintro (⟨h1, h2⟩ | h | ⟨h1, h2⟩)
    · exact Or.inr ⟨h1, by omega⟩
    · exact Or.inl h
    · exact Or.inr ⟨h1, by omega⟩
  · rintro (h | ⟨h1, h2⟩)
    · exact Or.inr (Or.inl h)
    · rcases Nat.lt_or_ge (f b) (f a) with q | q
      · exact Or.inl ⟨h1, q⟩
      · exact Or.inr (Or.inr ⟨h1, by omega⟩)
theorem Srt.ins {α : Type} {f : α → Nat} {l : List α} (h : Srt f l) (a : α) : Srt f (ins f a l) := by
  refine Srt.mk (h.filter _) (List.pairwise_cons.mpr ⟨fun b hb => ?_, h.filter _⟩) (fun b hb c hc => ?_)
  · have := (mem_hi.mp hb).2
    omega
  · have h1 := (mem_lo.mp hb).2
    rcases List.mem_cons.mp hc with rfl | hc
    · exact h1
    · have := (mem_hi.mp hc).2
      omega
theorem Srt.del {α : Type} {f : α → Nat} {l : List α} (h : Srt f l) (x : Nat) : Srt f (del f x l) := h.filter _
theorem nodup_of_Srt {α : Type} {f : α → Nat} {l : List α} (h : Srt f l) {i j : Nat} {a b : α} (hi : l[i]? = some a) (hj : l[j]? = some b) (e : f a = f b) : i = j := by
  have h1 : ∀ {i j : Nat} {a b : α}, l[i]? = some a → l[j]? = some b → f a = f b → ¬ i < j := fun {i j a b} hi hj e q => by
    have h2 := (h.ix (f a) hi)
    have h3 := (h.ix (f a) hj)
    have h4 := (h.ix (f a + 1) hi).mp (by omega)
    have : ¬ i < (lo f (f a) l).length := fun z => Nat.lt_irrefl _ (h2.mpr z)
    have h9 := List.pairwise_iff_getElem.mp h i j (List.getElem?_eq_some_iff.mp hi).1 (List.getElem?_eq_some_iff.mp hj).1 q
    rw [(List.getElem?_eq_some_iff.mp hi).2, (List.getElem?_eq_some_iff.mp hj).2] at h9
    omega
  rcases Nat.lt_trichotomy i j with q | q | q
  · exact absurd q (h1 hi hj e)
  · exact q
  · exact absurd q (h1 hj hi e.symm)
/-- the number below a threshold, as an int is asked -/
theorem lt_tn {a : Nat} (ha : a < 2 ^ 31) (x : Int32) : nI a < x ↔ a < x.toNatClampNeg := by
  rw [Int32.lt_iff_toInt_lt, nI_toInt ha]
  show (a : Int) < x.toInt ↔ a < x.toInt.toNat
  omega
theorem hi_new {α : Type} {f : α → Nat} {x : Nat} {l : List α} (h : ∀ b ∈ l, f b ≠ x) : hi f (x + 1) l = hi f x l := by
  unfold hi
  refine List.filter_congr fun b hb => ?_
  have := h b hb
  rw [decide_eq_decide]
  omega
theorem hi_old {α : Type} {f : α → Nat} {l : List α} (h : Srt f l) {b : α} (hb : b ∈ l) : hi f (f b) l = b :: hi f (f b + 1) l := by
  refine Srt.ext (h.filter _) (List.pairwise_cons.mpr ⟨fun c hc => ?_, h.filter _⟩) (fun c => ?_)
  · have := (mem_hi.mp hc).2
    omega
  · rw [List.mem_cons, mem_hi, mem_hi]
    constructor
    · rintro ⟨h1, h2⟩
      by_cases e : f c = f b
      · exact Or.inl (h.one h1 hb e)
      · exact Or.inr ⟨h1, by omega⟩
    · rintro (rfl | ⟨h1, h2⟩)
      · exact ⟨hb, Nat.le_refl _⟩
      · exact ⟨h1, by omega⟩
/-- in the place of one -/
theorem ins_old {α : Type} {f : α → Nat} {l : List α} (h : Srt f l) {a b : α} (hb : b ∈ l) (e : f b = f a) (j : Nat) : (ins f a l)[j]? = if j = (lo f (f a) l).length then some a else l[j]? := by
  have h1 := h.split (f a)
  have h2 := hi_old h hb
  rw [e] at h2
  rw [h2] at h1
  unfold ins
  have e0 : l[j]? = (lo f (f a) l ++ b :: hi f (f a + 1) l)[j]? := by rw [h1]
  rw [e0]
  by_cases h3 : j < (lo f (f a) l).length
  · rw [if_neg (by omega), List.getElem?_append_left h3, List.getElem?_append_left h3]
  · rw [List.getElem?_append_right (by omega), List.getElem?_append_right (by omega)]
    by_cases h4 : j = (lo f (f a) l).length
    · rw [if_pos h4, h4, Nat.sub_self]; rfl
    · rw [if_neg h4]
      obtain ⟨k, hk⟩ : ∃ k, j - (lo f (f a) l).length = k + 1 := ⟨j - (lo f (f a) l).length - 1, by omega⟩
      rw [hk]; rfl
theorem ins_old_len {α : Type} {f : α → Nat} {l : List α} (h : Srt f l) {a b : α} (hb : b ∈ l) (e : f b = f a) : (ins f a l).length = l.length := by
  have h1 := h.split (f a)
  have h2 := hi_old h hb
  rw [e] at h2
  rw [h2] at h1
  have h3 := congrArg List.length h1
  rw [List.length_append, List.length_cons] at h3
  unfold ins
  rw [List.length_append, List.length_cons]
  exact h3
/-- a new one -/
theorem ins_new {α : Type} {f : α → Nat} {l : List α} (h : Srt f l) {a : α} (hn : ∀ b ∈ l, f b ≠ f a) (j : Nat) : (ins f a l)[j]? = if j < (lo f (f a) l).length then l[j]? else if j = (lo f (f a) l).length then some a else l[j - 1]? := by
  have h1 := h.split (f a)
  unfold ins
  rw [hi_new hn]
  by_cases h3 : j < (lo f (f a) l).length
  · rw [if_pos h3, List.getElem?_append_left h3]
    conv => rhs; rw [← h1]
    rw [List.getElem?_append_left h3]
  · rw [if_neg h3, List.getElem?_append_right (by omega)]
    by_cases h4 : j = (lo f (f a) l).length
    · rw [if_pos h4, h4, Nat.sub_self]; rfl
    · rw [if_neg h4]
      conv => rhs; rw [← h1]
      rw [List.getElem?_append_right (by omega)]
      obtain ⟨k, hk⟩ : ∃ k, j - (lo f (f a) l).length = k + 1 := ⟨j - (lo f (f a) l).length - 1, by omega⟩
      rw [hk, show j - 1 - (lo f (f a) l).length = k by omega]; rfl
theorem ins_new_len {α : Type} {f : α → Nat} {l : List α} (h : Srt f l) {a : α} (hn : ∀ b ∈ l, f b ≠ f a) : (ins f a l).length = l.length + 1 := by
  have h3 := congrArg List.length (h.split (f a))
  rw [List.length_append] at h3
  unfold ins
  rw [hi_new hn, List.length_append, List.length_cons]
  omega
theorem lo_hi {α : Type} {f : α → Nat} {l : List α} (h : Srt f l) (a b : Nat) : (lo f b l).drop (lo f a l).length = hi f a (lo f b l) := by
  have h1 : Srt f (lo f b l) := h.filter _
  rcases Nat.le_total a b with q | q
  · have e : lo f a (lo f b l) = lo f a l := by
      unfold lo
      rw [List.filter_filter]
      refine List.filter_congr fun c _ => ?_
      rw [← Bool.decide_and, decide_eq_decide]
      omega
    rw [← h1.hi_drop a, e]
  · have e : hi f a (lo f b l) = [] := hi_none fun c hc => by
      have := (mem_lo.mp hc).2
      omega
    rw [e]
    exact List.drop_eq_nil_of_le (lo_mono l q)
theorem del_drop {α : Type} {f : α → Nat} {l : List α} (h : Srt f l) {b : α} (hb : b ∈ l) : l.take (lo f (f b) l).length ++ l.drop ((lo f (f b) l).length + 1) = del f (f b) l := by
  have h1 := h.split (f b)
  have h2 := hi_old h hb
  rw [h2] at h1
  have e1 : l.drop ((lo f (f b) l).length + 1) = hi f (f b + 1) l := by
    have e0 : l.drop ((lo f (f b) l).length + 1) = (lo f (f b) l ++ b :: hi f (f b + 1) l).drop ((lo f (f b) l).length + 1) := by rw [h1]
    rw [e0, List.drop_append, List.drop_eq_nil_of_le (by omega), List.nil_append, Nat.add_sub_cancel_left]
    rfl
  rw [h.lo_take, e1]
  refine Srt.ext (Srt.mk (h.filter _) (h.filter _) fun c hc d hd => ?_) (h.filter _) fun c => ?_
  · have := (mem_lo.mp hc).2
    have := (mem_hi.mp hd).2
    omega
  · rw [List.mem_append, mem_lo, mem_hi, mem_del]
    constructor
    · rintro (⟨g1, g2⟩ | ⟨g1, g2⟩)
      · exact ⟨g1, by omega⟩
      · exact ⟨g1, by omega⟩
    · rintro ⟨g1, g2⟩
      rcases Nat.lt_or_ge (f c) (f b) with q | q
      · exact Or.inl ⟨g1, q⟩
      · exact Or.inr ⟨g1, by omega⟩
theorem lo_ins {α : Type} {f : α → Nat} (a : α) (l : List α) : lo f (f a) (ins f a l) = lo f (f a) l := by
  unfold ins
  rw [lo_app, lo_all (fun b hb => (mem_lo.mp hb).2), lo_none (l := a :: hi f (f a + 1) l) (fun b hb => by
    rcases List.mem_cons.mp hb with rfl | hb
    · exact Nat.le_refl _
    · have := (mem_hi.mp hb).2
      omega), List.append_nil]
theorem ins_ins {α : Type} {f : α → Nat} {l : List α} (h : Srt f l) {a b : α} (e : f a = f b) : ins f a (ins f b l) = ins f a l := by
  refine Srt.ext ((h.ins b).ins a) (h.ins a) fun c => ?_
  rw [mem_ins, mem_ins, mem_ins]
  constructor
  · rintro (q | ⟨q | q, z⟩)
    · exact Or.inl q
    · exact absurd (by rw [q, e]) z
    · exact Or.inr ⟨q.1, z⟩
  · rintro (q | ⟨q, z⟩)
    · exact Or.inl q
    · exact Or.inr ⟨Or.inr ⟨q, by rw [← e]; exact z⟩, z⟩
