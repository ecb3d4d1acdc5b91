/-! TIERS -/
def ln (i : Nat) : Nat := if i = 3 then 86400 else if i = 2 then 3600 else 60
theorem ln_pos (i : Nat) : 0 < ln i := by unfold ln; split <;> (try split) <;> decide
theorem ln_le (i : Nat) : ln i ≤ 86400 := by unfold ln; split <;> (try split) <;> decide
theorem sp_X5_lengthOf {m : MM} {i : Nat} (hi : i ≤ 3) {Q : Int32 → MM → Prop} (hq : Q (nI (ln i)) m) : wp_X5_lengthOf (nI i) m Q := by
  unfold wp_X5_lengthOf
  rcases (show i = 0 ∨ i = 1 ∨ i = 2 ∨ i = 3 by omega) with rfl | rfl | rfl | rfl
  · exact ⟨fun _ => ⟨fun _ => hq, fun z => absurd z (by decide)⟩, fun z => absurd z (by decide)⟩
  · exact ⟨fun _ => ⟨fun _ => hq, fun z => absurd z (by decide)⟩, fun z => absurd z (by decide)⟩
  · exact ⟨fun _ => ⟨fun z => absurd rfl z, fun _ => hq⟩, fun z => absurd z (by decide)⟩
  · exact ⟨fun z => absurd rfl z, fun _ => hq⟩
theorem bg_nI {len t : Nat} (hl : 0 < len) (hl2 : len < 2 ^ 31) (ht : t < 2 ^ 31) : nI t - (nI t - nI t / nI len * nI len) = nI (bg len t) := by
  rw [pk_rem ht hl hl2, pk_sub (Nat.mod_le _ _)]
  congr 1
  have := Nat.div_add_mod t len
  unfold bg
  rw [Nat.mul_comm]
  omega
theorem sp_X5_beginOf {m : MM} {i t : Nat} (hi : i ≤ 3) (ht : t < 2 ^ 31) {Q : Int32 → MM → Prop} (hq : Q (nI (bg (ln i) t)) m) : wp_X5_beginOf (nI i) (nI t) m Q := by
  unfold wp_X5_beginOf
  have h1 := ln_pos i
  have h2 := ln_le i
  refine sp_X5_lengthOf hi ⟨nI_ne0 h1 (by omega), ?_⟩
  rw [bg_nI h1 (by omega) ht]
  exact hq
theorem sp_X3_rollupsOf {m : MM} {s : Nat} {U : Nat → Nat} (hK : mK m s = 4) (hU : ∀ i, 1 ≤ i → i ≤ 3 → mR m (61 + i) s = some (U i)) {i : Nat} (h1 : 1 ≤ i) (h3 : i ≤ 3) {Q : Option Nat → MM → Prop} (hq : Q (some (U i)) m) : wp_X3_rollupsOf s (nI i) m Q := by
  unfold wp_X3_rollupsOf
  rcases (show i = 1 ∨ i = 2 ∨ i = 3 by omega) with rfl | rfl | rfl
  · exact ⟨fun _ => ⟨fun _ => ⟨hK, U 1, hU 1 (by omega) (by omega), hq⟩, fun z => absurd z (by decide)⟩, fun z => absurd z (by decide)⟩
  · exact ⟨fun _ => ⟨fun z => absurd rfl z, fun _ => ⟨hK, U 2, hU 2 (by omega) (by omega), hq⟩⟩, fun z => absurd z (by decide)⟩
  · exact ⟨fun z => absurd rfl z, fun _ => ⟨hK, U 3, hU 3 (by omega) (by omega), hq⟩⟩
/-- the rollup at b now tells of X -/
def vUp (b : Nat) (X : List Int32) (V : List (Nat × List Int32)) : List (Nat × List Int32) := if X = [] then del kg b V else ins kg (b, X) V
theorem map_lo (b : Nat) (T : List RT) : (lo kt b T).map (·.2) = lo kg b (T.map (·.2)) := by
  unfold lo
  rw [List.filter_map]; rfl
theorem map_hi (b : Nat) (T : List RT) : (hi kt b T).map (·.2) = hi kg b (T.map (·.2)) := by
  unfold hi
  rw [List.filter_map]; rfl
theorem map_del (b : Nat) (T : List RT) : (del kt b T).map (·.2) = del kg b (T.map (·.2)) := by
  unfold del
  rw [List.filter_map]; rfl
theorem map_ins (r b : Nat) (X : List Int32) (T : List RT) : (ins kt (r, b, X) T).map (·.2) = ins kg (b, X) (T.map (·.2)) := by
  show (lo kt b T ++ (r, b, X) :: hi kt (b + 1) T).map (·.2) = _
  rw [List.map_append, List.map_cons, map_lo, map_hi]
  rfl
theorem del_ins {α : Type} {f : α → Nat} {l : List α} (h : Srt f l) (a : α) : del f (f a) (ins f a l) = del f (f a) l := by
  refine ((h.ins a).del _).ext (h.del _) fun c => ?_
  rw [mem_del, mem_ins, mem_del]
  constructor
  · rintro ⟨q | q, z⟩
    · exact absurd (by rw [q]) z
    · exact q
  · rintro ⟨q, z⟩
    exact ⟨Or.inr ⟨q, z⟩, z⟩
theorem ad_ins_old {T : List RT} (h : Srt kt T) {x : RT} (hx : x ∈ T) (Y : List Int32) : ad (ins kt (x.1, x.2.1, Y) T) = ad T := by
  apply List.ext_getElem?
  intro j
  rw [List.getElem?_map, List.getElem?_map, ins_old (f := kt) (a := (x.1, x.2.1, Y)) h hx rfl]
  by_cases q : j = (lo kt (kt (x.1, x.2.1, Y)) T).length
  · rw [if_pos q, q, show T[(lo kt (kt (x.1, x.2.1, Y)) T).length]? = some x from h.at hx]
    rfl
  · rw [if_neg q]
/-- the object r of a place that is kept tells of other values now -/
theorem Rw.upd {m m' : MM} {u w len cap r b : Nat} {T : List RT} {B : List Nat} {Y X : List Int32} (h : Rw m u w len cap (ins kt (r, b, Y) T) B) (hT : Srt kt T) (hr : RS m' r X) (hF : Fr (fun x => x = r) m m') (hb : mI m' 20 r = mI m 20 r) : Rw m' u w len cap (ins kt (r, b, X) T) B := by
  obtain ⟨⟨a1, a2, a3, a4, a5, a6, a7, a8, a9, b1, b2, b3, b4⟩, c1, c2, c3⟩ := id h
  have hrm : (r, b, Y) ∈ ins kt (r, b, Y) T := mem_ins.mpr (Or.inl rfl)
  have hr2 : mK m r = 2 := (c1 _ hrm).2.1
  have ha : ad (ins kt (r, b, X) T) = ad (ins kt (r, b, Y) T) := by
    show (lo kt b T ++ (r, b, X) :: hi kt (b + 1) T).map (·.1) = (lo kt b T ++ (r, b, Y) :: hi kt (b + 1) T).map (·.1)
    rw [List.map_append, List.map_append]; rfl
  have hlen : (ins kt (r, b, X) T).length = (ins kt (r, b, Y) T).length := by
    have := congrArg List.length ha
    rw [List.length_map, List.length_map] at this
    exact this
  have hne : ∀ q, mK m q ≠ 2 → ¬ q = r := fun q hq z => hq (by rw [z]; exact hr2)
  refine ⟨by rw [ha, hlen]; exact Rsh.fr ⟨a1, a2, a3, a4, a5, a6, a7, a8, a9, b1, b2, b3, b4⟩ hF (hne u (by rw [a1]; decide)) (hne w (by rw [a3]; decide)), fun x hx => ?_, hT.ins _, fun x hx => ?_⟩
  · rcases mem_ins.mp hx with rfl | ⟨q, z⟩
    · exact ⟨hb.trans (c1 _ hrm).1, hr⟩
    · have hx2 : x ∈ ins kt (r, b, Y) T := mem_ins.mpr (Or.inr ⟨q, z⟩)
      refine (c1 x hx2).fr hF (fun e => ?_)
      -- two places of one object
      obtain ⟨i, hi⟩ := List.getElem?_of_mem hx2
      obtain ⟨j, hj⟩ := List.getElem?_of_mem hrm
      have g1 := ad_get (B := B) hi
      have g2 := ad_get (B := B) hj
      have hij : i = j := by
        have hil := (List.getElem?_eq_some_iff.mp g1).1
        have hjl := (List.getElem?_eq_some_iff.mp g2).1
        refine (List.getElem_inj b3 (h₀ := hil) (h₁ := hjl)).mp ?_
        rw [(List.getElem?_eq_some_iff.mp g1).2, (List.getElem?_eq_some_iff.mp g2).2]
        exact e
      rw [hij, hj] at hi
      cases hi
      exact z rfl
  · rcases mem_ins.mp hx with rfl | ⟨q, z⟩
    · have z := c3 (r, b, Y) hrm
      exact z
    · exact c3 x (mem_ins.mpr (Or.inr ⟨q, z⟩))
