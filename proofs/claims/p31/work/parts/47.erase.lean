/-! ERASE -/
theorem sp_X5_erase {m : MM} {g : Nat → Nat} {o A R Z w su n ck : Nat} {sa kd rt hz : Nat → Nat} {Pl : Nat → List (Nat × Int32)} {Cs : Nat → Nat → Nat} (h : Sto m g o A R Z w su n ck sa kd rt hz Pl Cs) (hc : ck + 86400 < 2 ^ 31) (hzs : (hz 0 = 0 ∨ hz 0 + 7200 ≤ ck) ∧ (hz 1 = 0 ∨ hz 1 + 7200 ≤ ck) ∧ (hz 2 = 0 ∨ hz 2 + 90000 ≤ ck) ∧ (hz 3 = 0 ∨ hz 3 + 90000 ≤ ck)) (hP : ∀ i, i < n → Srt kf (Pl i) ∧ (Pl i).length + 1 < 2 ^ 29 ∧ (∀ b ∈ Pl i, b.1 ≤ ck) ∧ ∀ j, 1 ≤ j → j ≤ 3 → (gk (ln j) (hz j) (Pl i)).length < 16384) {p1 p2 : Int32} {kc ks : Nat} (hkc : 3 ≤ kc) (hks : 18 ≤ ks) (hb : ∀ i b, i < n → p1 = nI i → b ∈ hi kf (hz 0) (Pl i) → p2 = nI b.1 → ck ≤ b.1 + 3600 → sC hz (Pl i) b.1 + 3 ≤ kc ∧ sV hz (Pl i) (Cs i) b.1 + 18 ≤ ks) {Q : Int32 → MM → Prop} {X : Nat → MM → Prop} (hX0 : (p1 < 0 ∨ ¬ p1 < nI n) → X 0 m) (hX2 : ∀ i, i < n → p1 = nI i → (∀ b ∈ hi kf (hz 0) (Pl i), p2 = nI b.1 → b.1 + 3600 < ck) → X 2 m) (hQ : ∀ i b, i < n → p1 = nI i → b ∈ hi kf (hz 0) (Pl i) → p2 = nI b.1 → ck ≤ b.1 + 3600 → ∀ m' g' C', Sto m' g' o A R Z w su n ck sa kd rt hz (va_up Pl i (del kf b.1 (Pl i))) (va_up Cs i C') → (∀ j, 1 ≤ j → j ≤ 3 → C' j = capV (bg (ln j) b.1) (Cs i j) (gk (ln j) (hz j) (Pl i))) → (∀ a, mK m a ≠ 0 → g' a = g a) → Fr (fun a => 16 ≤ g a) m m' → Q b.2 m') : wp_X5_erase o p1 p2 m Q X kc ks := by
  unfold wp_X5_erase
  refine ⟨by omega, by omega, h.1.1, sp_X5_seriesAt h (fun i hin e kc6 ks7 ek es => ⟨sa i, rfl, by omega, by omega, ?_⟩) hX0⟩
  obtain ⟨s1, s2⟩ := h.2.2.2.2.2 i hin
  obtain ⟨P1, P2, P4, P3⟩ := hP i hin
  obtain ⟨p, t, v, U, WW, T, B, s3, -⟩ := id s2
  have hPt := s3.2.2.2.2.1
  obtain ⟨a1, a2, a3, a4, a5, a6, a7, a8, a9, b1, b2, b3, b4⟩ := id hPt
  refine sp_X5_placeOfPoint s3.1 s3.2.2.1 hPt (fun b hbm e2 hj kc15 ks16 ek2 es2 => ⟨h.1.1, ?_⟩) (fun z => hX2 i hin e fun b hbm e2 => absurd e2.symm (z b hbm))
  have hlt := (List.getElem?_eq_some_iff.mp hj).1
  have hbc : b.1 ≤ ck := P4 b (mem_hi.mp hbm).1
  rw [e2]
  refine sp_X5_isTooOld h (by omega) (by omega) (fun y => ⟨fun _ => ?_, fun z => absurd rfl z⟩) (fun y => ⟨fun z => absurd z (by decide), fun _ => ⟨by omega, by omega, hX2 i hin e fun b' hb' e' => ?_⟩⟩)
  · refine ⟨s3.1, p, s3.2.2.1, a1, v, a3, a6, ?_⟩
    rw [a8, nI_clamp (by omega)]
    refine ⟨vp_in_nI (by omega) (by omega), fun x29 ex => ?_⟩
    rw [(b2 _ b hj).2] at ex
    rw [ex]
    obtain ⟨hb1, hb2⟩ := hb i b hin e hbm e2 y
    obtain ⟨z0, z1⟩ := hz_ok hzs.1 hzs.2.1 hzs.2.2.1 hzs.2.2.2 y
    have k1 : sC hz (Pl i) b.1 ≤ kc15 := by omega
    have k2 : sV hz (Pl i) (Cs i) b.1 ≤ ks16 := by omega
    have k0 : b.1 + 86400 < 2 ^ 31 := by omega
    have kl : (Pl i).length < 2 ^ 29 := by omega
    have key : ∃ c6 s7, c6 ≤ kc15 ∧ s7 ≤ ks16 ∧ wp_X3_erasePoint (sa i) (nI (lo kf b.1 (hi kf (hz 0) (Pl i))).length) (nI b.1) m (fun m' => Q b.2 m') c6 s7 := sp_X3_erasePoint s2 rfl k0 P1 ⟨b, hbm, rfl⟩ z1 kl P3 k1 k2 (fun m' g' C' q1 q2 q3 q4 => hQ i b hin e hbm e2 y m' g' C' (h.wr hin q1 q3 q4) q2 q3 (q4.mono fun a _ z => Nat.le_trans (Nat.le_add_right _ _) z.1))
    obtain ⟨c6, s7, w1, w2, w3⟩ := key
    refine ⟨c6, s7, w1, w2, s3.1, ?_⟩
    exact cast (congrArg (fun F => wp_X3_erasePoint (sa i) (nI (lo kf b.1 (hi kf (hz 0) (Pl i))).length) (nI b.1) m F c6 s7) (funext fun m36 => propext ⟨fun z _ _ _ _ => z, fun z => z _ _ rfl rfl⟩)) w3
  · have hb'c := P4 b' (mem_hi.mp hb').1
    rw [e2] at e'
    have := (nI_eq (a := b.1) (b := b'.1) (by omega) (by omega)).mp e'
    omega
