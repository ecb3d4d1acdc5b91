theorem hi_del (h x : Nat) (P : List (Nat × Int32)) : hi kf h (del kf x P) = del kf x (hi kf h P) := by
  unfold hi del
  rw [List.filter_filter, List.filter_filter]
  refine List.filter_congr fun c _ => ?_
  rw [Bool.and_comm]
theorem sp_X3_erasePoint {m : MM} {g : Nat → Nat} {c0 s kd : Nat} {hz : Nat → Nat} {P : List (Nat × Int32)} {C : Nat → Nat} (h : Srs m g c0 s kd hz P C) {x k : Nat} (hk : k = (lo kf x (hi kf (hz 0) P)).length) (hx : x + 86400 < 2 ^ 31) (hP : Srt kf P) (hin : ∃ b ∈ hi kf (hz 0) P, b.1 = x) (hh : ∀ i, 1 ≤ i → i ≤ 3 → hz (i - 1) ≤ bg (ln i) x ∧ hz i < bg (ln i) x + ln i) (hlen : P.length < 2 ^ 29) (hroom : ∀ i, 1 ≤ i → i ≤ 3 → (gk (ln i) (hz i) P).length < 16384) {kc ks : Nat} (hkc : sC hz P x ≤ kc) (hks : sV hz P C x ≤ ks) {Q : MM → Prop} (hq : ∀ m' g' C', Srs m' g' c0 s kd hz (del kf x P) C' → (∀ i, 1 ≤ i → i ≤ 3 → C' i = capV (bg (ln i) x) (C i) (gk (ln i) (hz i) P)) → (∀ a, mK m a ≠ 0 → g' a = g a) → Fr (fun a => c0 ≤ g a ∧ g a ≤ c0 + 3) m m' → Q m') : ∃ c6 s7, c6 ≤ kc ∧ s7 ≤ ks ∧ wp_X3_erasePoint s (nI k) (nI x) m Q c6 s7 := by
  refine ⟨sC hz P x, sV hz P C x, hkc, hks, ?_⟩
  obtain ⟨p, t, v, U, W, T, B, h1, h2⟩ := h
  have hPt := h1.2.2.2.2.1
  obtain ⟨b, hb, e⟩ := hin
  have hS : Srt kf (hi kf (hz 0) P) := hP.filter _
  have hkl : k + 1 ≤ (hi kf (hz 0) P).length := by
    have z := hS.at hb
    rw [show kf b = x from e, ← hk] at z
    exact (List.getElem?_eq_some_iff.mp z).1
  have hd : (hi kf (hz 0) P).take k ++ (hi kf (hz 0) P).drop (k + 1) = hi kf (hz 0) (del kf x P) := by
    rw [hi_del, hk]
    have z := del_drop hS hb
    rw [show kf b = x from e] at z
    exact z
  unfold wp_X3_erasePoint
  refine ⟨h1.1, p, h1.2.2.1, hPt.1, ?_⟩
  rw [show (1 : Int32) = nI 1 from nI_11.symm]
  refine sp_X0_remove hPt hkl fun m5 q1 q2 => ⟨sC hz P x, sV hz P C x, Nat.le_refl _, Nat.le_refl _, ?_⟩
  rw [hd] at q1
  have hS5 := h1.pts q2 q1
  have hl : (del kf x P).length ≤ P.length := List.length_filter_le _ _
  refine ⟨hS5.1, sp_refresh_srs hS5 h2 hx hP (hP.filter _) (fun q hq => ?_) hh (by omega) hroom (Nat.le_refl _) (Nat.le_refl _) (fun m' g' C' g1 g2 g3 g4 kc9 ks9 _ _ => ?_)⟩
  · rw [mem_del]
    exact ⟨fun z => z.1, fun z => ⟨z, hq⟩⟩
  · have hold : ∀ a, mK m a ≠ 0 → mK m5 a ≠ 0 := fun a ha => by rw [(q2 a ha).1]; exact ha
    refine hq m' g' C' g1 g2 (fun a ha => g3 a (hold a ha)) ?_
    refine Fr.then (q2.mono fun a _ z => ?_) g4 (fun a _ z => z)
    rcases z with rfl | rfl | rfl
    · have := h1.2.2.2.2.2.2.2.1; omega
    · have := h1.2.2.2.2.2.2.2.2.1; omega
    · have := h1.2.2.2.2.2.2.2.2.2.1; omega
/-- how many rows a tier of a series has -/
def rws (hz : Nat → Nat) (P : List (Nat × Int32)) (i : Nat) : Nat := if i = 0 then (hi kf (hz 0) P).length else (gk (ln i) (hz i) P).length
theorem sp_X3_rowsOf {m : MM} {g : Nat → Nat} {c0 s kd : Nat} {hz : Nat → Nat} {P : List (Nat × Int32)} {C : Nat → Nat} (h : Srs m g c0 s kd hz P C) {i : Nat} (hi3 : i ≤ 3) {Q : Int32 → MM → Prop} (hq : Q (nI (rws hz P i)) m) : wp_X3_rowsOf s (nI i) m Q := by
  obtain ⟨p, t, v, U, W, T, B, h1, h2⟩ := h
  have hPt := h1.2.2.2.2.1
  unfold wp_X3_rowsOf
  by_cases e : i = 0
  · subst e
    refine ⟨fun z => absurd rfl z, fun _ => ⟨h1.1, p, h1.2.2.1, hPt.1, ?_⟩⟩
    rw [hPt.2.2.2.2.2.2.2.2.2.1]
    exact hq
  · have h1' : 1 ≤ i := by omega
    have hR := (h1.2.2.2.2.2.1 i h1' hi3).1
    refine ⟨fun _ => ⟨h1.1, sp_X3_rollupsOf h1.1 h1.2.2.2.1 h1' hi3 ⟨U i, rfl, hR.1, ?_⟩⟩, fun z => absurd z (nI_ne0 (by omega) (by omega))⟩
    rw [hR.2.2.2.2.2.1]
    have e2 : (T i).length = rws hz P i := by
      unfold rws
      rw [if_neg e, ← h2 i h1' hi3, List.length_map]
    rw [e2]
    exact hq
theorem up_self (f : Nat → Nat) (i : Nat) : va_up f i (f i) = f := by
  funext j
  by_cases e : j = i
  · rw [e, va_up_self]
  · rw [va_up_ne _ _ e]
theorem hi_hi {h h' : Nat} {P : List (Nat × Int32)} (hh : h ≤ h') : hi kf h' (hi kf h P) = hi kf h' P := by
  unfold hi
  rw [List.filter_filter]
  refine List.filter_congr fun c _ => ?_
  rw [← Bool.decide_and, decide_eq_decide]
  omega
theorem sp_X3_expire {m : MM} {g : Nat → Nat} {c0 s kd : Nat} {hz : Nat → Nat} {P : List (Nat × Int32)} {C : Nat → Nat} (h : Srs m g c0 s kd hz P C) (hP : Srt kf P) {i H : Nat} (hi3 : i ≤ 3) (hH : H < 2 ^ 30) (hle : hz i ≤ H) {Q : Int32 → MM → Prop} (hq : ∀ m' g', Srs m' g' c0 s kd (va_up hz i H) P C → (∀ a, mK m a ≠ 0 → g' a = g a) → Fr (fun a => c0 ≤ g a ∧ g a ≤ c0 + 3) m m' → Q (nI (rws hz P i - rws (va_up hz i H) P i)) m') : wp_X3_expire s (nI i) (nI H) m Q := by
  obtain ⟨p, t, v, U, W, T, B, h1, h2⟩ := h
  have hPt := h1.2.2.2.2.1
  unfold wp_X3_expire
  by_cases e : i = 0
  · subst e
    refine ⟨fun z => absurd rfl z, fun _ => ⟨h1.1, p, h1.2.2.1, hPt.1, sp_X0_expire hPt (nI H) fun m' q1 q2 => ?_⟩⟩
    rw [nI_clamp (by omega)] at q1 ⊢
    rw [hi_hi hle] at q1
    have hS5 := h1.pts q2 q1
    have hn : (lo kf H (hi kf (hz 0) P)).length = rws hz P 0 - rws (va_up hz 0 H) P 0 := by
      unfold rws
      rw [if_pos rfl, if_pos rfl, va_up_self]
      have hS : Srt kf (hi kf (hz 0) P) := hP.filter _
      have z := congrArg List.length (hS.split H)
      rw [List.length_append, hi_hi hle] at z
      omega
    rw [hn]
    refine hq m' g ⟨p, t, v, U, W, T, B, by rw [va_up_self]; exact hS5, fun j a b => by rw [va_up_ne _ _ (by omega)]; exact h2 j a b⟩ (fun _ _ => rfl) (q2.mono fun a _ z => ?_)
    rcases z with rfl | rfl | rfl
    · have := h1.2.2.2.2.2.2.2.1; omega
    · have := h1.2.2.2.2.2.2.2.2.1; omega
    · have := h1.2.2.2.2.2.2.2.2.2.1; omega
  · have h1' : 1 ≤ i := by omega
    have hR := h1.2.2.2.2.2.1 i h1' hi3
    have hlp := ln_pos i
    have hll := ln_le i
    obtain ⟨t1, t2, t3⟩ := h1.2.2.2.2.2.2.2.2.2.2 i h1' hi3
    refine ⟨fun _ => ⟨h1.1, sp_X3_rollupsOf h1.1 h1.2.2.2.1 h1' hi3 ⟨U i, rfl, hR.1.1, sp_X2_expire hR hH (by omega) fun m' B' q1 q2 q3 => ?_⟩⟩, fun z => absurd z (nI_ne0 (by omega) (by omega))⟩
    have hF : Fr (fun a => g a = c0 + i) m m' := q3.mono fun a _ z => by
      rcases z with rfl | rfl
      · exact t1
      · exact t2
    have hS := h1.put h1' hi3 hF q1 (Or.inr t2) (fun y hy => Or.inr (t3 y ((q2 y).mp hy)))
    rw [up_self C i] at hS
    have hmap : (hi kt (H + 1 - ln i) (T i)).map (·.2) = gk (ln i) H P := by
      rw [map_hi, h2 i h1' hi3, ← gk_later (len := ln i) (l := P) hle]
      unfold hi
      refine List.filter_congr fun c _ => ?_
      rw [decide_eq_decide]
      show H + 1 - ln i ≤ c.1 ↔ _
      omega
    have hn : (lo kt (H + 1 - ln i) (T i)).length = rws hz P i - rws (va_up hz i H) P i := by
      unfold rws
      rw [if_neg e, if_neg e, va_up_self, ← hmap, ← h2 i h1' hi3, List.length_map, List.length_map]
      have z := congrArg List.length (hR.2.2.1.split (H + 1 - ln i))
      rw [List.length_append] at z
      omega
    rw [hn]
    refine hq m' _ ⟨p, t, v, U, _, _, _, by rw [va_up_ne _ _ (fun z => e z.symm)]; exact hS, fun j a b => ?_⟩ (fun a ha => nt_old ha) (hF.mono fun a _ z => by omega)
    by_cases ej : j = i
    · rw [ej, va_up_self, va_up_self]; exact hmap
    · rw [va_up_ne _ _ ej, va_up_ne _ _ ej]; exact h2 j a b
