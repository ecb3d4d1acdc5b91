/-! WHAT STAYS: Fr S m m' says that what was there keeps its kind and length, and all that it holds unless S -/
def Fr (S : Nat → Prop) (m m' : MM) : Prop := ∀ a, mK m a ≠ 0 → mK m' a = mK m a ∧ mN m' a = mN m a ∧ (¬ S a → (∀ g, mI m' g a = mI m g a) ∧ (∀ g, mJ m' g a = mJ m g a) ∧ (∀ g, mR m' g a = mR m g a) ∧ mAI m' a = mAI m a ∧ mAJ m' a = mAJ m a ∧ mAD m' a = mAD m a ∧ mAR m' a = mAR m a)
theorem Fr.refl (S : Nat → Prop) (m : MM) : Fr S m m := fun _ _ => ⟨rfl, rfl, fun _ => ⟨fun _ => rfl, fun _ => rfl, fun _ => rfl, rfl, rfl, rfl, rfl⟩⟩
theorem Fr.trans {S : Nat → Prop} {m m' m'' : MM} (h1 : Fr S m m') (h2 : Fr S m' m'') : Fr S m m'' := fun a ha => by
  obtain ⟨a1, a2, a3⟩ := h1 a ha
  obtain ⟨b1, b2, b3⟩ := h2 a (by rw [a1]; exact ha)
  refine ⟨b1.trans a1, b2.trans a2, fun hs => ?_⟩
  obtain ⟨c1, c2, c3, c4, c5, c6, c7⟩ := a3 hs
  obtain ⟨d1, d2, d3, d4, d5, d6, d7⟩ := b3 hs
  exact ⟨fun g => (d1 g).trans (c1 g), fun g => (d2 g).trans (c2 g), fun g => (d3 g).trans (c3 g), d4.trans c4, d5.trans c5, d6.trans c6, d7.trans c7⟩
theorem Fr.then {S S' : Nat → Prop} {m m' m'' : MM} (h1 : Fr S m m') (h2 : Fr S' m' m'') (hS : ∀ a, mK m a ≠ 0 → S' a → S a) : Fr S m m'' := fun a ha => by
  obtain ⟨a1, a2, a3⟩ := h1 a ha
  obtain ⟨b1, b2, b3⟩ := h2 a (by rw [a1]; exact ha)
  refine ⟨b1.trans a1, b2.trans a2, fun hs => ?_⟩
  obtain ⟨c1, c2, c3, c4, c5, c6, c7⟩ := a3 hs
  obtain ⟨d1, d2, d3, d4, d5, d6, d7⟩ := b3 (fun z => hs (hS a ha z))
  exact ⟨fun g => (d1 g).trans (c1 g), fun g => (d2 g).trans (c2 g), fun g => (d3 g).trans (c3 g), d4.trans c4, d5.trans c5, d6.trans c6, d7.trans c7⟩
theorem Fr.mono {S S' : Nat → Prop} {m m' : MM} (h : Fr S m m') (hS : ∀ a, mK m a ≠ 0 → S a → S' a) : Fr S' m m' := fun a ha => ⟨(h a ha).1, (h a ha).2.1, fun hs => (h a ha).2.2 (fun z => hs (hS a ha z))⟩
theorem Fr.sI (m : MM) (g a : Nat) (v : Int32) : Fr (fun x => x = a) m (sI m g a v) := fun b _ => ⟨rfl, rfl, fun hs => ⟨fun h => by rw [i_sI, if_neg (fun z => hs z.2)], fun _ => rfl, fun _ => rfl, rfl, rfl, rfl, rfl⟩⟩
theorem Fr.sJ (m : MM) (g a : Nat) (v : Int64) : Fr (fun x => x = a) m (sJ m g a v) := fun b _ => ⟨rfl, rfl, fun hs => ⟨fun _ => rfl, fun h => by rw [j_sJ, if_neg (fun z => hs z.2)], fun _ => rfl, rfl, rfl, rfl, rfl⟩⟩
theorem Fr.sR (m : MM) (g a : Nat) (v : Option Nat) : Fr (fun x => x = a) m (sR m g a v) := fun b _ => ⟨rfl, rfl, fun hs => ⟨fun _ => rfl, fun _ => rfl, fun h => by rw [r_sR, if_neg (fun z => hs z.2)], rfl, rfl, rfl, rfl⟩⟩
theorem Fr.sAI (m : MM) (a : Nat) (f : Nat → Int32) : Fr (fun x => x = a) m (sAI m a f) := fun b _ => ⟨rfl, rfl, fun hs => ⟨fun _ => rfl, fun _ => rfl, fun _ => rfl, by rw [ai_sAI, if_neg hs], rfl, rfl, rfl⟩⟩
theorem Fr.sAJ (m : MM) (a : Nat) (f : Nat → Int64) : Fr (fun x => x = a) m (sAJ m a f) := fun b _ => ⟨rfl, rfl, fun hs => ⟨fun _ => rfl, fun _ => rfl, fun _ => rfl, rfl, by rw [aj_sAJ, if_neg hs], rfl, rfl⟩⟩
theorem Fr.sAD (m : MM) (a : Nat) (f : Nat → UInt64) : Fr (fun x => x = a) m (sAD m a f) := fun b _ => ⟨rfl, rfl, fun hs => ⟨fun _ => rfl, fun _ => rfl, fun _ => rfl, rfl, rfl, by rw [ad_sAD, if_neg hs], rfl⟩⟩
theorem Fr.sAR (m : MM) (a : Nat) (f : Nat → Option Nat) : Fr (fun x => x = a) m (sAR m a f) := fun b _ => ⟨rfl, rfl, fun hs => ⟨fun _ => rfl, fun _ => rfl, fun _ => rfl, rfl, rfl, rfl, by rw [ar_sAR, if_neg hs]⟩⟩
theorem Fr.nw (m : MM) (k n a : Nat) (ha : mK m a = 0) (S : Nat → Prop) : Fr S m (nw m k n a) := fun b hb => by
  have hne : b ≠ a := fun z => hb (by rw [z]; exact ha)
  exact ⟨by rw [k_nw, if_neg hne], by rw [n_nw, if_neg hne], fun _ => ⟨fun _ => by rw [i_nw, if_neg hne], fun _ => by rw [j_nw, if_neg hne], fun _ => by rw [r_nw, if_neg hne], by rw [ai_nw, if_neg hne], by rw [aj_nw, if_neg hne], by rw [ad_nw, if_neg hne], by rw [ar_nw, if_neg hne]⟩⟩
theorem Fr.K {S : Nat → Prop} {m m' : MM} (h : Fr S m m') {a k : Nat} (ha : mK m a = k) (hk : k ≠ 0) : mK m' a = k := by rw [(h a (by rw [ha]; exact hk)).1, ha]
/-! WHAT A ROLLUP TELLS OF VALUES IN THEIR ORDER -/
def stp (a b : Int32) : Int64 := (if b < a then b else b - a).toInt64
def mn (a b : Int32) : Int32 := if b < a then b else a
def mx (a b : Int32) : Int32 := if a < b then b else a
def vSum (l : List Int32) : Int64 := l.foldl (fun s v => s + v.toInt64) 0
def vMin : List Int32 → Int32
  | [] => 0
  | v :: l => l.foldl mn v
def vMax : List Int32 → Int32
  | [] => 0
  | v :: l => l.foldl mx v
def vFst (l : List Int32) : Int32 := l.headD 0
def vLst (l : List Int32) : Int32 := l.getLastD 0
def vIncA : Int32 → List Int32 → Int64
  | _, [] => 0
  | a, b :: l => stp a b + vIncA b l
def vInc : List Int32 → Int64
  | [] => 0
  | v :: l => vIncA v l
theorem vSum_from (l : List Int32) : ∀ s : Int64, l.foldl (fun s v => s + v.toInt64) s = s + vSum l := by
  induction l with
  | nil => intro s; exact (Int64.add_zero s).symm
  | cons v l ih =>
    intro s
    unfold vSum
    rw [List.foldl_cons, List.foldl_cons, ih, ih (0 + v.toInt64), Int64.zero_add, Int64.add_assoc]
theorem vSum_app (l k : List Int32) : vSum (l ++ k) = vSum l + vSum k := by
  unfold vSum
  rw [List.foldl_append, vSum_from]
  rfl
theorem vSum_1 (l : List Int32) (v : Int32) : vSum (l ++ [v]) = vSum l + v.toInt64 := by
  unfold vSum
  rw [List.foldl_append]
  rfl
theorem i32_eq {a b : Int32} (h : a.toInt = b.toInt) : a = b := Int32.toInt_inj.mp h
theorem mn_assoc (a b c : Int32) : mn (mn a b) c = mn a (mn b c) := by
  unfold mn
  simp only [Int32.lt_iff_toInt_lt]
  by_cases h1 : b.toInt < a.toInt <;> by_cases h2 : c.toInt < b.toInt <;> by_cases h3 : c.toInt < a.toInt <;> simp only [h1, h2, h3, if_true, if_false] <;> first | rfl | (exfalso; omega)
theorem mx_assoc (a b c : Int32) : mx (mx a b) c = mx a (mx b c) := by
  unfold mx
  simp only [Int32.lt_iff_toInt_lt]
  by_cases h1 : a.toInt < b.toInt <;> by_cases h2 : b.toInt < c.toInt <;> by_cases h3 : a.toInt < c.toInt <;> simp only [h1, h2, h3, if_true, if_false] <;> first | rfl | (exfalso; omega)
theorem mn_fold (l : List Int32) : ∀ a b : Int32, l.foldl mn (mn a b) = mn a (l.foldl mn b) := by
  induction l with
  | nil => intro a b; rfl
  | cons v l ih => intro a b; rw [List.foldl_cons, List.foldl_cons, mn_assoc, ih]
theorem mx_fold (l : List Int32) : ∀ a b : Int32, l.foldl mx (mx a b) = mx a (l.foldl mx b) := by
  induction l with
  | nil => intro a b; rfl
  | cons v l ih => intro a b; rw [List.foldl_cons, List.foldl_cons, mx_assoc, ih]
theorem vMin_app {l k : List Int32} (hl : l ≠ []) (hk : k ≠ []) : vMin (l ++ k) = mn (vMin l) (vMin k) := by
  cases l with
  | nil => exact absurd rfl hl
  | cons v l =>
    cases k with
    | nil => exact absurd rfl hk
    | cons w k =>
      show (l ++ w :: k).foldl mn v = mn (l.foldl mn v) (k.foldl mn w)
      rw [List.foldl_append, List.foldl_cons, mn_fold]
theorem vMax_app {l k : List Int32} (hl : l ≠ []) (hk : k ≠ []) : vMax (l ++ k) = mx (vMax l) (vMax k) := by
  cases l with
  | nil => exact absurd rfl hl
  | cons v l =>
    cases k with
    | nil => exact absurd rfl hk
    | cons w k =>
      show (l ++ w :: k).foldl mx v = mx (l.foldl mx v) (k.foldl mx w)
      rw [List.foldl_append, List.foldl_cons, mx_fold]
theorem vFst_app {l : List Int32} (k : List Int32) (hl : l ≠ []) : vFst (l ++ k) = vFst l := by
  cases l with
  | nil => exact absurd rfl hl
  | cons v l => rfl
theorem vLst_cons (v : Int32) (l : List Int32) : vLst (v :: l) = l.getLastD v := by
  cases l <;> rfl
theorem vLst_app (l : List Int32) {k : List Int32} (hk : k ≠ []) : vLst (l ++ k) = vLst k := by
  unfold vLst
  rw [List.getLastD_eq_getLast?, List.getLastD_eq_getLast?, List.getLast?_append]
  cases hq : k.getLast? with
  | none => exact absurd (List.getLast?_eq_none_iff.mp hq) hk
  | some x => rfl
theorem vIncA_app (l : List Int32) : ∀ (a w : Int32) (k : List Int32), vIncA a (l ++ w :: k) = vIncA a l + (stp (l.getLastD a) w + vIncA w k) := by
  induction l with
  | nil => intro a w k; exact (Int64.zero_add _).symm
  | cons v l ih =>
    intro a w k
    show stp a v + vIncA v (l ++ w :: k) = stp a v + vIncA v l + _
    rw [ih, Int64.add_assoc, List.getLastD_cons]
theorem vInc_app {l k : List Int32} (hl : l ≠ []) (hk : k ≠ []) : vInc (l ++ k) = vInc l + stp (vLst l) (vFst k) + vInc k := by
  cases l with
  | nil => exact absurd rfl hl
  | cons v l =>
    cases k with
    | nil => exact absurd rfl hk
    | cons w k =>
      show vIncA v (l ++ w :: k) = vIncA v l + stp (vLst (v :: l)) w + vIncA w k
      rw [vIncA_app, vLst_cons, Int64.add_assoc]
/-- the object r tells of the values L -/
def RS (m : MM) (r : Nat) (L : List Int32) : Prop := mK m r = 2 ∧ mI m 21 r = nI L.length ∧ mJ m 22 r = vSum L ∧ mJ m 27 r = vInc L ∧ (L ≠ [] → mI m 23 r = vMin L ∧ mI m 24 r = vMax L ∧ mI m 25 r = vFst L ∧ mI m 26 r = vLst L)
theorem RS.fr {S : Nat → Prop} {m m' : MM} {r : Nat} {L : List Int32} (h : RS m r L) (hf : Fr S m m') (hs : ¬ S r) : RS m' r L := by
  obtain ⟨h1, h2, h3, h4, h5⟩ := h
  obtain ⟨f1, f2, f3⟩ := hf r (by rw [h1]; decide)
  obtain ⟨g1, g2, -⟩ := f3 hs
  exact ⟨by rw [f1, h1], by rw [g1, h2], by rw [g2, h3], by rw [g2, h4], fun hL => by rw [g1, g1, g1, g1]; exact h5 hL⟩
