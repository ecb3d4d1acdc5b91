/-! A SERIES: its object s, its points and its three tiers; g tells of each address whose it is -/
def Tg (g : Nat → Nat) (c u w : Nat) (D : List Nat) : Prop := g u = c ∧ g w = c ∧ ∀ y ∈ D, g y = c
/-- whose each is, where all that is new is c's -/
def nt (m : MM) (g : Nat → Nat) (c : Nat) : Nat → Nat := fun a => if mK m a = 0 then c else g a
def Ser (m : MM) (g : Nat → Nat) (c0 s kd p t v : Nat) (L : List (Nat × Int32)) (U W C : Nat → Nat) (T : Nat → List RT) (B : Nat → List Nat) : Prop := mK m s = 4 ∧ mI m 60 s = nI kd ∧ mR m 61 s = some p ∧ (∀ i, 1 ≤ i → i ≤ 3 → mR m (61 + i) s = some (U i)) ∧ Pts m p t v L ∧ (∀ i, 1 ≤ i → i ≤ 3 → Rw m (U i) (W i) (ln i) (C i) (T i) (B i)) ∧ g s = c0 ∧ g p = c0 ∧ g t = c0 ∧ g v = c0 ∧ ∀ i, 1 ≤ i → i ≤ 3 → Tg g (c0 + i) (U i) (W i) (ad (T i) ++ B i)
theorem Ser.fr {S : Nat → Prop} {m m' : MM} {g : Nat → Nat} {c0 s kd p t v : Nat} {L : List (Nat × Int32)} {U W C : Nat → Nat} {T : Nat → List RT} {B : Nat → List Nat} (h : Ser m g c0 s kd p t v L U W C T B) (hf : Fr S m m') (hS : ∀ a, c0 ≤ g a → g a ≤ c0 + 3 → ¬ S a) : Ser m' g c0 s kd p t v L U W C T B := by
  obtain ⟨h1, h2, h3, h4, h5, h6, h7, h8, h9, h10, h11⟩ := h
  obtain ⟨f1, -, f2⟩ := hf s (by rw [h1]; decide)
  obtain ⟨f3, -, f4, -⟩ := f2 (hS s (by omega) (by omega))
  refine ⟨by rw [f1, h1], by rw [f3, h2], by rw [f4, h3], fun i a b => by rw [f4]; exact h4 i a b, h5.fr hf (hS p (by omega) (by omega)) (hS t (by omega) (by omega)) (hS v (by omega) (by omega)), fun i a b => ?_, h7, h8, h9, h10, h11⟩
  obtain ⟨t1, t2, t3⟩ := h11 i a b
  exact (h6 i a b).fr hf (hS _ (by omega) (by omega)) (hS _ (by omega) (by omega)) (fun x hx => by
    have := t3 x.1 (List.mem_append_left _ (List.mem_map.mpr ⟨x, hx, rfl⟩))
    exact hS _ (by omega) (by omega))
/-- its tier i is another now -/
theorem Ser.put {m m' : MM} {g : Nat → Nat} {c0 s kd p t v : Nat} {L : List (Nat × Int32)} {U W C : Nat → Nat} {T : Nat → List RT} {B : Nat → List Nat} (h : Ser m g c0 s kd p t v L U W C T B) {i : Nat} (h1 : 1 ≤ i) (h3 : i ≤ 3) (hF : Fr (fun a => g a = c0 + i) m m') {w' cap' : Nat} {T' : List RT} {B' : List Nat} (hR : Rw m' (U i) w' (ln i) cap' T' B') (hw : mK m w' = 0 ∨ g w' = c0 + i) (hT : ∀ y ∈ ad T' ++ B', mK m y = 0 ∨ g y = c0 + i) : Ser m' (nt m g (c0 + i)) c0 s kd p t v L U (va_up W i w') (va_up C i cap') (va_up T i T') (va_up B i B') := by
  obtain ⟨a1, a2, a3, a4, a5, a6, a7, a8, a9, a10, a11⟩ := id h
  have hold : ∀ a, mK m a ≠ 0 → nt m g (c0 + i) a = g a := fun a ha => if_neg ha
  have hnew : ∀ a, (mK m a = 0 ∨ g a = c0 + i) → nt m g (c0 + i) a = c0 + i := fun a ha => by
    unfold nt
    by_cases z : mK m a = 0
    · rw [if_pos z]
    · rw [if_neg z]; exact ha.resolve_left z
  obtain ⟨f1, -, f2⟩ := hF s (by rw [a1]; decide)
  obtain ⟨f3, -, f4, -⟩ := f2 (by omega)
  refine ⟨by rw [f1, a1], by rw [f3, a2], by rw [f4, a3], fun j x y => by rw [f4]; exact a4 j x y, a5.fr hF (by omega) (by omega) (by omega), fun j x y => ?_, by rw [hold s (by rw [a1]; decide)]; exact a7, by rw [hold p (by rw [a5.1]; decide)]; exact a8, by rw [hold t (by rw [a5.2.2.2.2.1]; decide)]; exact a9, by rw [hold v (by rw [a5.2.2.2.2.2.1]; decide)]; exact a10, fun j x y => ?_⟩
  · by_cases e : j = i
    · subst e
      rw [va_up_self, va_up_self, va_up_self, va_up_self]
      exact hR
    · rw [va_up_ne _ _ e, va_up_ne _ _ e, va_up_ne _ _ e, va_up_ne _ _ e]
      obtain ⟨t1, t2, t3⟩ := a11 j x y
      exact (a6 j x y).fr hF (by omega) (by omega) (fun z hz => by
        have := t3 z.1 (List.mem_append_left _ (List.mem_map.mpr ⟨z, hz, rfl⟩))
        omega)
  · by_cases e : j = i
    · subst e
      rw [va_up_self, va_up_self, va_up_self]
      exact ⟨hnew _ (Or.inr (a11 j x y).1), hnew _ hw, fun z hz => hnew z (hT z hz)⟩
    · rw [va_up_ne _ _ e, va_up_ne _ _ e, va_up_ne _ _ e]
      obtain ⟨t1, t2, t3⟩ := a11 j x y
      have hr := (a6 j x y).1
      exact ⟨by rw [hold _ (by rw [hr.1]; decide)]; exact t1, by rw [hold _ (by rw [hr.2.2.1]; decide)]; exact t2, fun z hz => by rw [hold _ (by rw [hr.2.2.2.2.2.2.2.2.2.2.2.2 z hz]; decide)]; exact t3 z hz⟩
theorem ins_self {α : Type} {f : α → Nat} {l : List α} (h : Srt f l) {a : α} (ha : a ∈ l) : ins f a l = l := (h.ins a).ext h fun c => by
  rw [mem_ins]
  constructor
  · rintro (q | ⟨q, -⟩)
    · rw [q]; exact ha
    · exact q
  · intro q
    by_cases e : f c = f a
    · exact Or.inl (h.one q ha e)
    · exact Or.inr ⟨q, e⟩
/-- behind the clearing of the rollup r at b of tier i: its values come from the next finer rows -/
theorem sp_refresh_tail {m m2 : MM} {g : Nat → Nat} {c0 s kd p t v : Nat} {L : List (Nat × Int32)} {U W C : Nat → Nat} {T : Nat → List RT} {B : Nat → List Nat} (h : Ser m g c0 s kd p t v L U W C T B) {i : Nat} (h1 : 1 ≤ i) (h3 : i ≤ 3) {b r w' cap' : Nat} {B' : List Nat} (hb : b + ln i < 2 ^ 31) (hF : Fr (fun a => g a = c0 + i) m m2) (hr : RS m2 r []) (hrt : mK m r = 0 ∨ g r = c0 + i) (hR : Rw m2 (U i) w' (ln i) cap' (ins kt (r, b, []) (T i)) B') (hw : mK m w' = 0 ∨ g w' = c0 + i) (hTt : ∀ y ∈ ad (ins kt (r, b, []) (T i)) ++ B', mK m y = 0 ∨ g y = c0 + i) {X : List Int32} (hX1 : i = 1 → X = (hi kf b (lo kf (b + ln i) L)).map (·.2)) (hX2 : i ≠ 1 → X = vals (hi kt b (lo kt (b + ln i) (T (i - 1))))) (hXl : X.length < 2 ^ 29) (hne : i ≠ 1 → ∀ x ∈ T (i - 1), x.2.2 ≠ []) {Q : MM → Prop} (hq : ∀ m' T' B'', Ser m' (nt m g (c0 + i)) c0 s kd p t v L U (va_up W i w') (va_up C i cap') (va_up T i T') (va_up B i B'') → T'.map (·.2) = vUp b X ((T i).map (·.2)) → Fr (fun a => g a = c0 + i) m m' → Q m') :
    mK m2 (U i) = 3 ∧ ∀ x21 : Int32, x21 = (nI b + (mI m2 40 (U i))) → ((¬ nI i = (1 : Int32) → mK m2 s = 4 ∧ wp_X3_rollupsOf s (nI i - (1 : Int32)) m2 (fun r24 m25 => ∃ b26 : Nat, r24 = some b26 ∧ mK m25 b26 = 3 ∧ wp_X2_addTo b26 r (nI b) x21 m25 (fun m29 => mK m29 r = 2 ∧ ((¬ (mI m29 21 r) = 0 → Q m29) ∧ ((mI m29 21 r) = 0 → mK m29 (U i) = 3 ∧ wp_X2_placeFrom (U i) (nI b) m29 (fun r33 m34 => mK m34 (U i) = 3 ∧ wp_X2_remove (U i) r33 (1 : Int32) m34 (fun m37 => Q m37))))))) ∧ (nI i = (1 : Int32) → mK m2 s = 4 ∧ ∃ b39 : Nat, mR m2 61 s = some b39 ∧ mK m2 b39 = 1 ∧ wp_X0_addTo b39 r (nI b) x21 m2 (fun m42 => mK m42 r = 2 ∧ ((¬ (mI m42 21 r) = 0 → Q m42) ∧ ((mI m42 21 r) = 0 → mK m42 (U i) = 3 ∧ wp_X2_placeFrom (U i) (nI b) m42 (fun r46 m47 => mK m47 (U i) = 3 ∧ wp_X2_remove (U i) r46 (1 : Int32) m47 (fun m50 => Q m50))))))) := by
  have hK2 := hR.1.1
  have hln := ln_le i
  have hTs : Srt kt (T i) := (h.2.2.2.2.2.1 i h1 h3).2.2.1
  have e40 : nI b + mI m2 40 (U i) = nI (b + ln i) := by rw [hR.1.2.2.2.2.1]; exact nI_add _ _
  -- what follows once the values are there
  have fin : ∀ m3, RS m3 r ([] ++ X) → Fr (fun x => x = r) m2 m3 → mI m3 20 r = mI m2 20 r → mK m3 r = 2 ∧ ((¬ (mI m3 21 r) = 0 → Q m3) ∧ ((mI m3 21 r) = 0 → mK m3 (U i) = 3 ∧ wp_X2_placeFrom (U i) (nI b) m3 (fun r33 m34 => mK m34 (U i) = 3 ∧ wp_X2_remove (U i) r33 (1 : Int32) m34 (fun m37 => Q m37)))) := by
    intro m3 hr3 hF3 hb3
    rw [List.nil_append] at hr3
    have hRu := hR.upd hTs hr3 hF3 hb3
    have hF4 : Fr (fun a => g a = c0 + i) m m3 := hF.then hF3 (fun a ha z => hrt.elim (fun y => absurd (by rw [z]; exact y) ha) (fun y => by rw [z]; exact y))
    have hmemX : ∀ y, y ∈ ad (ins kt (r, b, X) (T i)) ++ B' → mK m y = 0 ∨ g y = c0 + i := fun y hy => hTt y (by
      have : ad (ins kt (r, b, X) (T i)) = ad (ins kt (r, b, []) (T i)) := by
        show (lo kt b (T i) ++ (r, b, X) :: hi kt (b + 1) (T i)).map (·.1) = (lo kt b (T i) ++ (r, b, []) :: hi kt (b + 1) (T i)).map (·.1)
        rw [List.map_append, List.map_append]; rfl
      rw [← this]; exact hy)
    refine ⟨hr3.1, fun c => ?_, fun c => ?_⟩
    · have hXn : X ≠ [] := fun z => c (by rw [hr3.2.1, z]; rfl)
      refine hq m3 _ B' (h.put h1 h3 hF4 hRu hw hmemX) ?_ hF4
      rw [map_ins]
      unfold vUp
      rw [if_neg hXn]
    · have hXn : X = [] := by
        refine Classical.byContradiction fun z => ?_
        rw [hr3.2.1] at c
        exact nI_len_ne0 (List.length_pos_iff.mpr z) (by omega) c
      subst hXn
      refine ⟨hRu.1.1, sp_X2_placeFrom hRu (nI b) ⟨hRu.1.1, ?_⟩⟩
      rw [nI_clamp (by omega)]
      have hmm : (r, b, ([] : List Int32)) ∈ ins kt (r, b, []) (T i) := mem_ins.mpr (Or.inl rfl)
      have hat := hRu.2.2.1.at hmm
      have hlt := (List.getElem?_eq_some_iff.mp hat).1
      refine sp_X2_remove hRu (P := (lo kt b (ins kt (r, b, []) (T i))).length) (g := 1) hlt fun m4 B4 hR4 hm4 hF5 => ?_
      have hdel : (ins kt (r, b, []) (T i)).take (lo kt b (ins kt (r, b, []) (T i))).length ++ (ins kt (r, b, []) (T i)).drop ((lo kt b (ins kt (r, b, []) (T i))).length + 1) = del kt b (T i) := (del_drop hRu.2.2.1 hmm).trans (del_ins (f := kt) hTs (r, b, []))
      rw [hdel] at hR4 hm4
      have hF6 : Fr (fun a => g a = c0 + i) m m4 := hF4.then hF5 (fun a ha z => z.elim (fun y => by rw [y]; exact (h.2.2.2.2.2.2.2.2.2.2 i h1 h3).1) (fun y => hw.elim (fun q => absurd (by rw [y]; exact q) ha) (fun q => by rw [y]; exact q)))
      refine hq m4 _ B4 (h.put h1 h3 hF6 hR4 hw (fun y hy => hmemX y ((hm4 y).mp hy))) ?_ hF6
      rw [map_del]
      unfold vUp
      rw [if_pos rfl]
  have hs2 : mK m2 s = 4 := hF.K h.1 (by decide)
  have hgs : ¬ g s = c0 + i := by have := h.2.2.2.2.2.2.1; omega
  have hRs2 := ((hF s (by rw [h.1]; decide)).2.2 hgs).2.2.1
  refine ⟨hK2, fun x21 hx => ⟨fun c => ⟨hs2, ?_⟩, fun c => ⟨hs2, p, by rw [hRs2]; exact h.2.2.1, ?_⟩⟩⟩
  · have hi1 : i ≠ 1 := fun z => c (by rw [z]; rfl)
    rw [show nI i - (1 : Int32) = nI (i - 1) from pk_sub (a := i) (b := 1) h1, hx, e40]
    have hfin := h.2.2.2.2.2.1 (i - 1) (by omega) (by omega)
    have htg := h.2.2.2.2.2.2.2.2.2.2 (i - 1) (by omega) (by omega)
    have hfin2 : Rw m2 (U (i - 1)) (W (i - 1)) (ln (i - 1)) (C (i - 1)) (T (i - 1)) (B (i - 1)) := hfin.fr hF (by have := htg.1; omega) (by have := htg.2.1; omega) (fun x hx => by
      have := htg.2.2 x.1 (List.mem_append_left _ (List.mem_map.mpr ⟨x, hx, rfl⟩))
      omega)
    have hr9 : r ∉ ad (T (i - 1)) := fun hm => by
      have h5 := htg.2.2 r (List.mem_append_left _ hm)
      have h6 := hfin.1.2.2.2.2.2.2.2.2.2.2.2.2 r (List.mem_append_left _ hm)
      rcases hrt with z | z
      · rw [h6] at z; exact absurd z (by decide)
      · omega
    refine sp_X3_rollupsOf hs2 (U := U) (fun j x y => by rw [hRs2]; exact h.2.2.2.1 j x y) (by omega) (by omega) ⟨U (i - 1), rfl, hfin2.1.1, ?_⟩
    refine sp_X2_addTo hfin2 hr hr9 (hne hi1) (by omega) hb (by rw [← hX2 hi1, List.length_nil]; omega) (fun m3 g1 g2 g3 => fin m3 (by rw [hX2 hi1]; exact g1) g2 g3)
  · have hi1 : i = 1 := (nI_eq (a := i) (b := 1) (by omega) (by omega)).mp c
    have hP2 : Pts m2 p t v L := h.2.2.2.2.1.fr hF (by have := h.2.2.2.2.2.2.2.1; omega) (by have := h.2.2.2.2.2.2.2.2.1; omega) (by have := h.2.2.2.2.2.2.2.2.2.1; omega)
    refine ⟨hP2.1, ?_⟩
    rw [hx, e40]
    refine sp_X0_addTo hP2 hr (by omega) hb (by have := hP2.len; rw [List.length_nil]; omega) (fun m3 g1 g2 g3 => fin m3 (by rw [hX1 hi1]; exact g1) g2 g3)
theorem sp_X3_refreshRollup {m : MM} {g : Nat → Nat} {c0 s kd p t v : Nat} {L : List (Nat × Int32)} {U W C : Nat → Nat} {T : Nat → List RT} {B : Nat → List Nat} (h : Ser m g c0 s kd p t v L U W C T B) {i : Nat} (h1 : 1 ≤ i) (h3 : i ≤ 3) {b : Nat} (hb : b + ln i < 2 ^ 31) (hroom : (T i).length < 16384) {kc ks : Nat} (hbud : (∀ x ∈ T i, x.2.1 ≠ b) → 2 ≤ kc ∧ (if C i ≤ (T i).length then gro (C i) else 0) + 8 ≤ ks) {X : List Int32} (hX1 : i = 1 → X = (hi kf b (lo kf (b + ln i) L)).map (·.2)) (hX2 : i ≠ 1 → X = vals (hi kt b (lo kt (b + ln i) (T (i - 1))))) (hXl : X.length < 2 ^ 29) (hne : i ≠ 1 → ∀ x ∈ T (i - 1), x.2.2 ≠ []) {Q : MM → Prop} (hq : ∀ m' W' cap' T' B', Ser m' (nt m g (c0 + i)) c0 s kd p t v L U W' (va_up C i cap') (va_up T i T') B' → T'.map (·.2) = vUp b X ((T i).map (·.2)) → ((∀ x ∈ T i, x.2.1 ≠ b) → cap' = if C i ≤ (T i).length then gro (C i) else C i) → ((∃ x ∈ T i, x.2.1 = b) → cap' = C i) → Fr (fun a => g a = c0 + i) m m' → Q m') : wp_X3_refreshRollup s (nI i) (nI b) m Q kc ks := by
  have hR := h.2.2.2.2.2.1 i h1 h3
  have htg := h.2.2.2.2.2.2.2.2.2.2 i h1 h3
  have hln := ln_pos i
  unfold wp_X3_refreshRollup
  refine ⟨h.1, sp_X3_rollupsOf h.1 h.2.2.2.1 h1 h3 ⟨U i, rfl, kc, ks, Nat.le_refl _, Nat.le_refl _, hR.1.1, sp_X2_findOrMake hR (by omega) hroom hbud (fun x hx e => ?_) (fun hn r m1 w' cap' B' hM => ?_)⟩⟩
  · intro kc9 ks9 _ _
    refine ⟨fun z => (by cases z), fun y hy => ?_⟩
    cases hy
    have hxa : x.1 ∈ ad (T i) ++ B i := List.mem_append_left _ (List.mem_map.mpr ⟨x, hx, rfl⟩)
    have hxk := hR.1.2.2.2.2.2.2.2.2.2.2.2.2 x.1 hxa
    refine ⟨hxk, sp_X1_clear hxk fun m2 hr2 hF2 hb2 => ?_⟩
    have hins : ins kt (x.1, b, x.2.2) (T i) = T i := by
      have := ins_self (f := kt) hR.2.2.1 hx
      rw [← e]; exact this
    have hR2 : Rw m2 (U i) (W i) (ln i) (C i) (ins kt (x.1, b, []) (T i)) (B i) := Rw.upd (Y := x.2.2) (by rw [hins]; exact hR) hR.2.2.1 hr2 hF2 hb2
    have hFg : Fr (fun a => g a = c0 + i) m m2 := hF2.mono (fun a _ z => by rw [z]; exact htg.2.2 x.1 hxa)
    refine sp_refresh_tail h h1 h3 hb hFg hr2 (Or.inr (htg.2.2 x.1 hxa)) hR2 (Or.inr htg.2.1) (fun y hy => Or.inr (htg.2.2 y ?_)) hX1 hX2 hXl hne (fun m' T' B' g1 g2 g3 => hq m' _ (C i) T' _ g1 g2 (fun z => absurd e (z x hx)) (fun _ => rfl) g3)
    have e2 : ad (ins kt (x.1, b, []) (T i)) = ad (T i) := by rw [← e]; exact ad_ins_old hR.2.2.1 hx []
    rw [← e2]; exact hy
  · obtain ⟨hc', hw', hrr, hB', hRs, hbr, hF1⟩ := hM
    intro kc9 ks9 _ _
    refine ⟨fun z => (by cases z), fun y hy => ?_⟩
    cases hy
    have hrD : r ∈ ad (lo kt b (T i)) ++ r :: (ad (hi kt b (T i)) ++ B') := List.mem_append_right _ List.mem_cons_self
    have hrk := hRs.2.2.2.2.2.2.2.2.2.2.2.2 r hrD
    refine ⟨hrk, sp_X1_clear hrk fun m2 hr2 hF2 hb2 => ?_⟩
    have hDeq : ad (ins kt (r, b, []) (T i)) ++ B' = ad (lo kt b (T i)) ++ r :: (ad (hi kt b (T i)) ++ B') := by
      show (lo kt b (T i) ++ (r, b, []) :: hi kt (b + 1) (T i)).map (·.1) ++ B' = _
      rw [hi_new (f := kt) hn, List.map_append, List.map_cons, List.append_assoc]; rfl
    have hlen := ins_new_len (f := kt) (a := (r, b, ([] : List Int32))) hR.2.2.1 hn
    have hrt : mK m r = 0 ∨ g r = c0 + i := hrr.elim (fun z => Or.inr (htg.2.2 r (List.mem_append_right _ z))) Or.inl
    have hwt : mK m w' = 0 ∨ g w' = c0 + i := hw'.elim (fun z => Or.inr (by rw [z]; exact htg.2.1)) Or.inl
    have hxr : ∀ x ∈ T i, x.1 ≠ r := fun x hx z => by
      have hxa : x.1 ∈ ad (T i) := List.mem_map.mpr ⟨x, hx, rfl⟩
      rcases hrr with q | q
      · exact (List.nodup_append.mp hR.1.2.2.2.2.2.2.2.2.2.2.2.1).2.2 _ hxa _ q z
      · have := hR.1.2.2.2.2.2.2.2.2.2.2.2.2 x.1 (List.mem_append_left _ hxa)
        rw [z, q] at this
        exact absurd this (by decide)
    have hmm : ∀ q k, mK m q = k → k ≠ 0 → k ≠ 2 → q ≠ r := fun q k hq9 h0 h2' z => by
      rw [z] at hq9
      have h7 := hF1.K hq9 h0
      rw [hrk] at h7
      exact h2' h7.symm
    have hR2 : Rw m2 (U i) w' (ln i) cap' (ins kt (r, b, []) (T i)) B' := by
      have hur : ¬ U i = r := hmm _ 3 hR.1.1 (by decide) (by decide)
      have hwr : ¬ w' = r := fun z => by
        have := hRs.2.2.1
        rw [z, hrk] at this
        exact absurd this (by decide)
      refine ⟨by rw [hDeq, hlen]; exact hRs.fr hF2 hur hwr, fun x hx => ?_, hR.2.2.1.ins _, fun x hx => ?_⟩
      · rcases mem_ins.mp hx with rfl | ⟨q, -⟩
        · exact ⟨hb2.trans hbr, hr2⟩
        · have hx2 := hR.1.2.2.2.2.2.2.2.2.2.2.2.2 x.1 (List.mem_append_left _ (List.mem_map.mpr ⟨x, q, rfl⟩))
          refine ((hR.2.1 x q).fr hF1 (fun z => ?_)).fr hF2 (hxr x q)
          rcases z with z | z | z
          · rw [z, hR.1.1] at hx2; exact absurd hx2 (by decide)
          · rw [z, hR.1.2.2.1] at hx2; exact absurd hx2 (by decide)
          · exact hxr x q z
      · rcases mem_ins.mp hx with rfl | ⟨q, -⟩
        · show b < 2 ^ 31
          omega
        · exact hR.2.2.2 x q
    have hFg : Fr (fun a => g a = c0 + i) m m2 := (hF1.then (S' := fun x => x = r) hF2 (fun a _ z => Or.inr (Or.inr z))).then (Fr.refl (fun _ => False) m2) (fun _ _ z => z.elim) |> fun hz => by
      intro a ha
      obtain ⟨y1, y2, y3⟩ := hz a ha
      refine ⟨y1, y2, fun hs => y3 (fun z => hs ?_)⟩
      rcases z with z | z | z
      · rw [z]; exact htg.1
      · rw [z]; exact htg.2.1
      · exact hrt.elim (fun q => absurd (by rw [z]; exact q) ha) (fun q => by rw [z]; exact q)
    refine sp_refresh_tail h h1 h3 hb hFg hr2 hrt hR2 hwt (fun y hy => ?_) hX1 hX2 hXl hne (fun m' T' B'' g1 g2 g3 => hq m' _ cap' T' _ g1 g2 (fun _ => hc') (fun ⟨x, hx, e⟩ => absurd e (hn x hx)) g3)
    rw [hDeq, List.mem_append, List.mem_cons, List.mem_append] at hy
    rcases hy with q | q | q | q
    · exact Or.inr (htg.2.2 y (List.mem_append_left _ (by rw [ad_split hR.2.2.1 b]; exact List.mem_append_left _ q)))
    · rw [q]; exact hrt
    · exact Or.inr (htg.2.2 y (List.mem_append_left _ (by rw [ad_split hR.2.2.1 b]; exact List.mem_append_right _ q)))
    · exact Or.inr (htg.2.2 y (List.mem_append_right _ (hB' y q)))
