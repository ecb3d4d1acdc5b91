/-! PUT -/
theorem sp_X5_put {m : MM} {g : Nat → Nat} {o A R Z w su n ck : Nat} {sa kd rt hz : Nat → Nat} {Pl : Nat → List (Nat × Int32)} {Cs : Nat → Nat → Nat} (h : Sto m g o A R Z w su n ck sa kd rt hz Pl Cs) (hkd : ∀ i, i < n → kd i ≤ 1) (hc : ck + 86400 < 2 ^ 31) (hzs : (hz 0 = 0 ∨ hz 0 + 7200 ≤ ck) ∧ (hz 1 = 0 ∨ hz 1 + 7200 ≤ ck) ∧ (hz 2 = 0 ∨ hz 2 + 90000 ≤ ck) ∧ (hz 3 = 0 ∨ hz 3 + 90000 ≤ ck)) (hP : ∀ i, i < n → Srt kf (Pl i) ∧ (Pl i).length + 1 < 2 ^ 29 ∧ ∀ j, 1 ≤ j → j ≤ 3 → (gk (ln j) (hz j) (Pl i)).length < 16384) {p1 p2 p3 : Int32} {kc ks : Nat} (hkc : 3 ≤ kc) (hks : 18 ≤ ks) (hb : ∀ i x, i < n → p1 = nI i → p2 = nI x → x ≤ ck → okV (kd i) p3 → (ck ≤ x + 3600 ∧ ((hi kf (hz 0) (Pl i)).length < 100 ∨ ∃ b ∈ hi kf (hz 0) (Pl i), b.1 = x)) → sC hz (Pl i) x + 3 ≤ kc ∧ sV hz (Pl i) (Cs i) x + 18 ≤ ks) {Q : Int32 → MM → Prop} {X : Nat → MM → Prop} (hX0 : (p1 < 0 ∨ ¬ p1 < nI n) → X 0 m) (hX1 : ∀ i, i < n → p1 = nI i → (∀ x, p2 = nI x → x ≤ ck → ¬ okV (kd i) p3) → X 1 m) (hX2 : ∀ i x, i < n → p1 = nI i → p2 = nI x → x ≤ ck → okV (kd i) p3 → ¬ (ck ≤ x + 3600 ∧ ((hi kf (hz 0) (Pl i)).length < 100 ∨ ∃ b ∈ hi kf (hz 0) (Pl i), b.1 = x)) → X 2 m) (hQ : ∀ i x, i < n → p1 = nI i → p2 = nI x → x ≤ ck → okV (kd i) p3 → (ck ≤ x + 3600 ∧ ((hi kf (hz 0) (Pl i)).length < 100 ∨ ∃ b ∈ hi kf (hz 0) (Pl i), b.1 = x)) → ∀ (r : Int32) m' g' C', ((∃ b ∈ Pl i, b.1 = x) → r = 1) → ((∀ b ∈ Pl i, b.1 ≠ x) → r = 0) → Sto m' g' o A R Z w su n ck sa kd rt hz (va_up Pl i (ins kf (x, p3) (Pl i))) (va_up Cs i C') → (∀ j, 1 ≤ j → j ≤ 3 → C' j = capV (bg (ln j) x) (Cs i j) (gk (ln j) (hz j) (Pl i))) → (∀ a, mK m a ≠ 0 → g' a = g a) → Fr (fun a => 16 ≤ g a) m m' → Q r m') : wp_X5_put o p1 p2 p3 m Q X kc ks := by
  unfold wp_X5_put
  refine ⟨by omega, by omega, h.1.1, sp_X5_seriesAt h (fun i hin e kc6 ks7 ek es => ⟨sa i, rfl, by omega, by omega, h.1.1, ?_⟩) hX0⟩
  obtain ⟨s1, s2⟩ := h.2.2.2.2.2 i hin
  obtain ⟨P1, P2, P3⟩ := hP i hin
  have k4 : mK m (sa i) = 4 := by
    obtain ⟨p, t, v, U, WW, T, B, s3, -⟩ := s2
    exact s3.1
  unfold wp_X5_needPoint
  refine ⟨h.1.1, sp_X5_isPoint h hkd (by omega) hin (fun x ex hx hv => ⟨fun _ kc16 ks17 ek2 es2 => ⟨by omega, by omega, h.1.1, ?_⟩, fun z => absurd z (by decide)⟩) (fun z => ⟨fun y => absurd rfl y, fun _ => hX1 i hin e z⟩)⟩
  unfold wp_X5_needPlace
  rw [ex]
  refine ⟨h.1.1, sp_X5_hasPlace h (by omega) hin (by omega) (fun y => ⟨fun _ kc25 ks26 ek3 es3 => ?_, fun z => absurd z (by decide)⟩) (fun y => ⟨fun z => absurd rfl z, fun _ => hX2 i x hin e ex hx hv y⟩)⟩
  obtain ⟨hb1, hb2⟩ := hb i x hin e ex hx hv y
  obtain ⟨z0, z1⟩ := hz_ok hzs.1 hzs.2.1 hzs.2.2.1 hzs.2.2.2 y.1
  have k1 : sC hz (Pl i) x ≤ kc25 := by clear y; omega
  have k2 : sV hz (Pl i) (Cs i) x ≤ ks26 := by clear y; omega
  have k0 : x + 86400 < 2 ^ 31 := by clear y; omega
  have key : ∀ c29 s30 : Nat, ∃ c6 s7, c6 ≤ kc25 ∧ s7 ≤ ks26 ∧ wp_X3_write (sa i) (nI x) p3 m (fun r34 m35 => (r34 = 0 ∨ r34 = 1) ∧ Q r34 m35) c6 s7 := fun _ _ => sp_X3_write s2 k0 P1 z0 z1 P2 P3 y.2 k1 k2 (fun r m' g' C' r1 r0 q1 q2 q3 q4 => ⟨by
    by_cases q : ∃ b ∈ Pl i, b.1 = x
    · exact Or.inr (r1 q)
    · exact Or.inl (r0 fun b hb' e' => q ⟨b, hb', e'⟩), hQ i x hin e ex hx hv y r m' g' C' r1 r0 (h.wr hin q1 q3 q4) q2 q3 (q4.mono fun a _ z => Nat.le_trans (Nat.le_add_right _ _) z.1)⟩)

  · obtain ⟨c6, s7, w1, w2, w3⟩ := key 0 0
    refine ⟨c6, s7, w1, w2, k4, ?_⟩
    refine cast (congrArg (fun F => wp_X3_write (sa i) (nI x) p3 m F c6 s7) (funext fun r34 => funext fun m35 => propext ⟨fun z _ _ _ _ => z, fun z => z _ _ rfl rfl⟩)) w3
