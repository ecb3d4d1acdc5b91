/-! REFRESHING A SERIES: all three tiers -/
theorem refresh_2_go {Q : MM → Prop} {n s x i : Nat} {m : MM} {kc ks c5 s6 : Nat} (hi : i ≤ 3) (hx : x < 2 ^ 31) (hK : mK m s = 4) (hc : c5 ≤ kc) (hs : s6 ≤ ks) (h : wp_X3_refreshRollup s (nI i) (nI (bg (ln i) x)) m (fun m11 => wp_X3_refresh_2 Q n s (nI x) (nI (i + 1)) m11 (kc - c5) (ks - s6)) c5 s6) : wp_X3_refresh_2 Q (n + 1) s (nI x) (nI i) m kc ks := by
  unfold wp_X3_refresh_2
  refine ⟨fun c => absurd ((nI_ltI (a := 3) (by omega) (by omega)).mp c) (by omega), fun _ => sp_X5_beginOf hi hx ⟨c5, s6, hc, hs, hK, ?_⟩⟩
  refine cast (congrArg (fun F => wp_X3_refreshRollup s (nI i) (nI (bg (ln i) x)) m F c5 s6) (funext fun m11 => propext ⟨fun z kc9 ks9 h1 h2 y hy => ?_, fun z => ?_⟩)) h
  · rw [h1, h2, hy, nI_1]; exact z
  · have z := z _ _ rfl rfl _ rfl
    rw [nI_1] at z
    exact z
theorem refresh_2_end {Q : MM → Prop} {n s x : Nat} {m : MM} {kc ks : Nat} (h : Q m) : wp_X3_refresh_2 Q (n + 1) s (nI x) (nI 4) m kc ks := by
  unfold wp_X3_refresh_2
  exact ⟨fun _ => h, fun c => absurd ((nI_ltI (a := 3) (b := 4) (by omega) (by omega)).mpr (by omega)) c⟩
theorem nt_old {m : MM} {g : Nat → Nat} {c a : Nat} (h : mK m a ≠ 0) : nt m g c a = g a := if_neg h
theorem sp_X3_refresh {m : MM} {g : Nat → Nat} {c0 s kd p t v : Nat} {L : List (Nat × Int32)} {U W C : Nat → Nat} {T : Nat → List RT} {B : Nat → List Nat} (h : Ser m g c0 s kd p t v L U W C T B) {x : Nat} (hx : x + 86400 < 2 ^ 31) {P P' : List (Nat × Int32)} {h0 : Nat → Nat} (hP : Srt kf P) (hP' : Srt kf P') (hu : ∀ q : Nat × Int32, q.1 ≠ x → (q ∈ P' ↔ q ∈ P)) (hL : L = hi kf (h0 0) P') (hV : ∀ i, 1 ≤ i → i ≤ 3 → (T i).map (·.2) = gk (ln i) (h0 i) P) (hh : ∀ i, 1 ≤ i → i ≤ 3 → h0 (i - 1) ≤ bg (ln i) x ∧ h0 i < bg (ln i) x + ln i) (hlen : P'.length < 2 ^ 29) (hroom : ∀ i, 1 ≤ i → i ≤ 3 → (T i).length < 16384) {kc ks : Nat} (hkc : csC (bg (ln 1) x) (T 1) + csC (bg (ln 2) x) (T 2) + csC (bg (ln 3) x) (T 3) ≤ kc) (hks : cst (bg (ln 1) x) (C 1) (T 1) + cst (bg (ln 2) x) (C 2) (T 2) + cst (bg (ln 3) x) (C 3) (T 3) ≤ ks) {Q : MM → Prop} (hq : ∀ m' g' W' C' T' B', Ser m' g' c0 s kd p t v L U W' C' T' B' → (∀ i, 1 ≤ i → i ≤ 3 → (T' i).map (·.2) = gk (ln i) (h0 i) P') → (∀ i, 1 ≤ i → i ≤ 3 → C' i = cap1 (bg (ln i) x) (C i) (T i)) → (∀ a, mK m a ≠ 0 → g' a = g a) → Fr (fun a => c0 ≤ g a ∧ g a ≤ c0 + 3) m m' → Q m') : wp_X3_refresh s (nI x) m Q kc ks := by
  unfold wp_X3_refresh
  intro x1 e1
  subst e1
  refine ⟨3 + 1, refresh_2_go (i := 1) (c5 := csC (bg (ln 1) x) (T 1)) (s6 := cst (bg (ln 1) x) (C 1) (T 1)) (by decide) (by omega) h.1 (by omega) (by omega) ?_⟩
  refine sp_refresh_step h (i := 1) (by decide) (by decide) hx hP hP' hu hL (hV 1 (by decide) (by decide)) (fun z => absurd rfl z) (hh 1 (by decide) (by decide)).1 (hh 1 (by decide) (by decide)).2 hlen (hroom 1 (by decide) (by decide)) (Nat.le_refl _) (Nat.le_refl _) fun m1 W1 T1 B1 s1 v1 f1 => ?_
  refine refresh_2_go (i := 2) (c5 := csC (bg (ln 2) x) (T 2)) (s6 := cst (bg (ln 2) x) (C 2) (T 2)) (by decide) (by omega) s1.1 (by omega) (by omega) ?_
  refine sp_refresh_step s1 (i := 2) (by decide) (by decide) hx hP hP' hu hL (by rw [va_up_ne _ _ (by decide)]; exact hV 2 (by decide) (by decide)) (fun _ => by rw [show 2 - 1 = 1 from rfl, va_up_self]; exact v1) (hh 2 (by decide) (by decide)).1 (hh 2 (by decide) (by decide)).2 hlen (by rw [va_up_ne _ _ (by decide)]; exact hroom 2 (by decide) (by decide)) (by rw [va_up_ne _ _ (by decide)]; exact Nat.le_refl _) (by rw [va_up_ne _ _ (by decide), va_up_ne _ _ (by decide)]; exact Nat.le_refl _) fun m2 W2 T2 B2 s2 v2 f2 => ?_
  refine refresh_2_go (i := 3) (c5 := csC (bg (ln 3) x) (T 3)) (s6 := cst (bg (ln 3) x) (C 3) (T 3)) (by decide) (by omega) s2.1 (by omega) (by omega) ?_
  refine sp_refresh_step s2 (i := 3) (by decide) (by decide) hx hP hP' hu hL (by rw [va_up_ne _ _ (by decide), va_up_ne _ _ (by decide)]; exact hV 3 (by decide) (by decide)) (fun _ => by rw [show 3 - 1 = 2 from rfl, va_up_self]; exact v2) (hh 3 (by decide) (by decide)).1 (hh 3 (by decide) (by decide)).2 hlen (by rw [va_up_ne _ _ (by decide), va_up_ne _ _ (by decide)]; exact hroom 3 (by decide) (by decide)) (by rw [va_up_ne _ _ (by decide), va_up_ne _ _ (by decide)]; exact Nat.le_refl _) (by rw [va_up_ne _ _ (by decide), va_up_ne _ _ (by decide), va_up_ne _ _ (by decide), va_up_ne _ _ (by decide)]; exact Nat.le_refl _) fun m3 W3 T3 B3 s3 v3 f3 => ?_
  refine refresh_2_end ?_
  have o1 : ∀ a, mK m a ≠ 0 → mK m1 a ≠ 0 := fun a ha => by rw [(f1 a ha).1]; exact ha
  have o2 : ∀ a, mK m a ≠ 0 → mK m2 a ≠ 0 := fun a ha => by rw [(f2 a (o1 a ha)).1]; exact o1 a ha
  have t1 : ∀ a, mK m a ≠ 0 → nt m g (c0 + 1) a = g a := fun a ha => nt_old ha
  have t2 : ∀ a, mK m a ≠ 0 → nt m1 (nt m g (c0 + 1)) (c0 + 2) a = g a := fun a ha => (nt_old (o1 a ha)).trans (t1 a ha)
  have t3 : ∀ a, mK m a ≠ 0 → nt m2 (nt m1 (nt m g (c0 + 1)) (c0 + 2)) (c0 + 3) a = g a := fun a ha => (nt_old (o2 a ha)).trans (t2 a ha)
  refine hq m3 _ W3 _ _ B3 s3 ?_ ?_ t3 ?_
  · intro i hi1 hi3
    have : i = 1 ∨ i = 2 ∨ i = 3 := by omega
    rcases this with rfl | rfl | rfl
    · rw [va_up_ne _ _ (by decide), va_up_ne _ _ (by decide), va_up_self]; exact v1
    · rw [va_up_ne _ _ (by decide), va_up_self]; exact v2
    · rw [va_up_self]; exact v3
  · intro i hi1 hi3
    have : i = 1 ∨ i = 2 ∨ i = 3 := by omega
    rcases this with rfl | rfl | rfl
    · rw [va_up_ne _ _ (by decide), va_up_ne _ _ (by decide), va_up_self]
    · rw [va_up_ne _ _ (by decide), va_up_self, va_up_ne _ _ (by decide), va_up_ne _ _ (by decide)]
    · rw [va_up_self, va_up_ne _ _ (by decide), va_up_ne _ _ (by decide), va_up_ne _ _ (by decide), va_up_ne _ _ (by decide)]
  · have F1 : Fr (fun a => c0 ≤ g a ∧ g a ≤ c0 + 3) m m1 := f1.mono fun a _ z => by omega
    have F2 := F1.then f2 (fun a ha z => by rw [t1 a ha] at z; omega)
    exact F2.then f3 (fun a ha z => by rw [t2 a ha] at z; omega)
