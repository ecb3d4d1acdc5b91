/-! A SERIES, told by the points that were not erased and by the horizons -/
def Srs (m : MM) (g : Nat → Nat) (c0 s kd : Nat) (hz : Nat → Nat) (P : List (Nat × Int32)) (C : Nat → Nat) : Prop := ∃ p t v U W T B, Ser m g c0 s kd p t v (hi kf (hz 0) P) U W C T B ∧ ∀ i, 1 ≤ i → i ≤ 3 → (T i).map (·.2) = gk (ln i) (hz i) P
theorem Ser.pts {m m' : MM} {g : Nat → Nat} {c0 s kd p t v : Nat} {L L' : List (Nat × Int32)} {U W C : Nat → Nat} {T : Nat → List RT} {B : Nat → List Nat} (h : Ser m g c0 s kd p t v L U W C T B) (hF : Fr (fun a => a = p ∨ a = t ∨ a = v) m m') (hP : Pts m' p t v L') : Ser m' g c0 s kd p t v L' U W C T B := by
  obtain ⟨h1, h2, h3, h4, h5, h6, h7, h8, h9, h10, h11⟩ := h
  have k1 := h5.1
  have k2 := h5.2.2.2.2.1
  have k3 := h5.2.2.2.2.2.1
  have ns : ¬ (s = p ∨ s = t ∨ s = v) := fun z => by
    rcases z with z | z | z
    · rw [z, k1] at h1; exact absurd h1 (by decide)
    · rw [z, k2] at h1; exact absurd h1 (by decide)
    · rw [z, k3] at h1; exact absurd h1 (by decide)
  obtain ⟨f1, -, f2⟩ := hF s (by rw [h1]; decide)
  obtain ⟨f3, -, f4, -⟩ := f2 ns
  have ng : ∀ a, g a ≠ c0 → ¬ (a = p ∨ a = t ∨ a = v) := fun a ha z => by
    rcases z with rfl | rfl | rfl
    · exact ha h8
    · exact ha h9
    · exact ha h10
  refine ⟨by rw [f1, h1], by rw [f3, h2], by rw [f4, h3], fun i a b => by rw [f4]; exact h4 i a b, hP, fun i a b => ?_, h7, h8, h9, h10, h11⟩
  obtain ⟨t1, t2, t3⟩ := h11 i a b
  exact (h6 i a b).fr hF (ng _ (by omega)) (ng _ (by omega)) (fun x hx => by
    have := t3 x.1 (List.mem_append_left _ (List.mem_map.mpr ⟨x, hx, rfl⟩))
    exact ng _ (by omega))
theorem Ser.tag {m : MM} {g g' : Nat → Nat} {c0 s kd p t v : Nat} {L : List (Nat × Int32)} {U W C : Nat → Nat} {T : Nat → List RT} {B : Nat → List Nat} (h : Ser m g c0 s kd p t v L U W C T B) (hg : ∀ a, mK m a ≠ 0 → g' a = g a) : Ser m g' c0 s kd p t v L U W C T B := by
  obtain ⟨h1, h2, h3, h4, h5, h6, h7, h8, h9, h10, h11⟩ := h
  refine ⟨h1, h2, h3, h4, h5, h6, (hg s (by rw [h1]; decide)).trans h7, (hg p (by rw [h5.1]; decide)).trans h8, (hg t (by rw [h5.2.2.2.2.1]; decide)).trans h9, (hg v (by rw [h5.2.2.2.2.2.1]; decide)).trans h10, fun i a b => ?_⟩
  obtain ⟨t1, t2, t3⟩ := h11 i a b
  have hR := (h6 i a b).1
  refine ⟨(hg _ (by rw [hR.1]; decide)).trans t1, (hg _ (by rw [hR.2.2.1]; decide)).trans t2, fun y hy => ?_⟩
  exact (hg y (by rw [hR.2.2.2.2.2.2.2.2.2.2.2.2 y hy]; decide)).trans (t3 y hy)
theorem Srs.fr {S : Nat → Prop} {m m' : MM} {g : Nat → Nat} {c0 s kd : Nat} {hz : Nat → Nat} {P : List (Nat × Int32)} {C : Nat → Nat} (h : Srs m g c0 s kd hz P C) (hf : Fr S m m') (hS : ∀ a, c0 ≤ g a → g a ≤ c0 + 3 → ¬ S a) : Srs m' g c0 s kd hz P C := by
  obtain ⟨p, t, v, U, W, T, B, h1, h2⟩ := h
  exact ⟨p, t, v, U, W, T, B, h1.fr hf hS, h2⟩
theorem Srs.tag {m : MM} {g g' : Nat → Nat} {c0 s kd : Nat} {hz : Nat → Nat} {P : List (Nat × Int32)} {C : Nat → Nat} (h : Srs m g c0 s kd hz P C) (hg : ∀ a, mK m a ≠ 0 → g' a = g a) : Srs m g' c0 s kd hz P C := by
  obtain ⟨p, t, v, U, W, T, B, h1, h2⟩ := h
  exact ⟨p, t, v, U, W, T, B, h1.tag hg, h2⟩
/-- what making a rollup at b costs, and the places behind it -/
def cV (b C : Nat) (V : List (Nat × List Int32)) : Nat := if ∃ x ∈ V, x.1 = b then 0 else (if C ≤ V.length then gro C else 0) + 8
def cC (b : Nat) (V : List (Nat × List Int32)) : Nat := if ∃ x ∈ V, x.1 = b then 0 else 2
def capV (b C : Nat) (V : List (Nat × List Int32)) : Nat := if ∃ x ∈ V, x.1 = b then C else if C ≤ V.length then gro C else C
theorem ex_map {b : Nat} {T : List RT} : (∃ x ∈ T.map (·.2), x.1 = b) ↔ ∃ x ∈ T, x.2.1 = b := by
  constructor
  · rintro ⟨x, hx, e⟩
    obtain ⟨y, hy, rfl⟩ := List.mem_map.mp hx
    exact ⟨y, hy, e⟩
  · rintro ⟨x, hx, e⟩
    exact ⟨x.2, List.mem_map.mpr ⟨x, hx, rfl⟩, e⟩
theorem cst_map (b C : Nat) (T : List RT) : cst b C T = cV b C (T.map (·.2)) := by
  unfold cst cV
  rw [List.length_map]
  by_cases q : ∃ x ∈ T, x.2.1 = b
  · rw [if_pos q, if_pos (ex_map.mpr q)]
  · rw [if_neg q, if_neg (fun z => q (ex_map.mp z))]
theorem csC_map (b : Nat) (T : List RT) : csC b T = cC b (T.map (·.2)) := by
  unfold csC cC
  by_cases q : ∃ x ∈ T, x.2.1 = b
  · rw [if_pos q, if_pos (ex_map.mpr q)]
  · rw [if_neg q, if_neg (fun z => q (ex_map.mp z))]
theorem cap1_map (b C : Nat) (T : List RT) : cap1 b C T = capV b C (T.map (·.2)) := by
  unfold cap1 capV
  rw [List.length_map]
  by_cases q : ∃ x ∈ T, x.2.1 = b
  · rw [if_pos q, if_pos (ex_map.mpr q)]
  · rw [if_neg q, if_neg (fun z => q (ex_map.mp z))]
/-- what a write at x may cost a series -/
def sC (hz : Nat → Nat) (P : List (Nat × Int32)) (x : Nat) : Nat := cC (bg (ln 1) x) (gk (ln 1) (hz 1) P) + cC (bg (ln 2) x) (gk (ln 2) (hz 2) P) + cC (bg (ln 3) x) (gk (ln 3) (hz 3) P)
def sV (hz : Nat → Nat) (P : List (Nat × Int32)) (C : Nat → Nat) (x : Nat) : Nat := cV (bg (ln 1) x) (C 1) (gk (ln 1) (hz 1) P) + cV (bg (ln 2) x) (C 2) (gk (ln 2) (hz 2) P) + cV (bg (ln 3) x) (C 3) (gk (ln 3) (hz 3) P)
/-- the tiers of a series behind a change of its points at x -/
theorem sp_refresh_srs {m : MM} {g : Nat → Nat} {c0 s kd p t v : Nat} {hz : Nat → Nat} {P P' : List (Nat × Int32)} {U W C : Nat → Nat} {T : Nat → List RT} {B : Nat → List Nat} (h : Ser m g c0 s kd p t v (hi kf (hz 0) P') U W C T B) (hV : ∀ i, 1 ≤ i → i ≤ 3 → (T i).map (·.2) = gk (ln i) (hz i) P) {x : Nat} (hx : x + 86400 < 2 ^ 31) (hP : Srt kf P) (hP' : Srt kf P') (hu : ∀ q : Nat × Int32, q.1 ≠ x → (q ∈ P' ↔ q ∈ P)) (hh : ∀ i, 1 ≤ i → i ≤ 3 → hz (i - 1) ≤ bg (ln i) x ∧ hz i < bg (ln i) x + ln i) (hlen : P'.length < 2 ^ 29) (hroom : ∀ i, 1 ≤ i → i ≤ 3 → (gk (ln i) (hz i) P).length < 16384) {kc ks : Nat} (hkc : sC hz P x ≤ kc) (hks : sV hz P C x ≤ ks) {Q : MM → Prop} (hq : ∀ m' g' C', Srs m' g' c0 s kd hz P' C' → (∀ i, 1 ≤ i → i ≤ 3 → C' i = capV (bg (ln i) x) (C i) (gk (ln i) (hz i) P)) → (∀ a, mK m a ≠ 0 → g' a = g a) → Fr (fun a => c0 ≤ g a ∧ g a ≤ c0 + 3) m m' → Q m') : wp_X3_refresh s (nI x) m Q kc ks := by
  refine sp_X3_refresh h hx hP hP' hu rfl hV hh hlen (fun i a b => ?_) ?_ ?_ (fun m' g' W' C' T' B' g1 g2 g3 g4 g5 => ?_)
  · have := hroom i a b
    rw [← hV i a b, List.length_map] at this
    exact this
  · rw [csC_map, csC_map, csC_map, hV 1 (by decide) (by decide), hV 2 (by decide) (by decide), hV 3 (by decide) (by decide)]
    exact hkc
  · rw [cst_map, cst_map, cst_map, hV 1 (by decide) (by decide), hV 2 (by decide) (by decide), hV 3 (by decide) (by decide)]
    exact hks
  · exact hq m' g' C' ⟨p, t, v, U, W', T', B', g1, g2⟩ (fun i a b => by rw [g3 i a b, cap1_map, hV i a b]) g4 g5
theorem hi_ins {x h : Nat} {y : Int32} {P : List (Nat × Int32)} (hP : Srt kf P) (hx : h ≤ x) : hi kf h (ins kf (x, y) P) = ins kf (x, y) (hi kf h P) := by
  refine Srt.ext (f := kf) ((hP.ins _).filter _) (Srt.ins (f := kf) (hP.filter _) _) fun c => ?_
  rw [mem_hi, mem_ins, mem_ins, mem_hi]
  constructor
  · rintro ⟨rfl | ⟨h1, h2⟩, h3⟩
    · exact Or.inl rfl
    · exact Or.inr ⟨⟨h1, h3⟩, h2⟩
  · rintro (rfl | ⟨⟨h1, h3⟩, h2⟩)
    · exact ⟨Or.inl rfl, hx⟩
    · exact ⟨Or.inr ⟨h1, h2⟩, h3⟩
theorem sp_X3_write {m : MM} {g : Nat → Nat} {c0 s kd : Nat} {hz : Nat → Nat} {P : List (Nat × Int32)} {C : Nat → Nat} (h : Srs m g c0 s kd hz P C) {x : Nat} {y : Int32} (hx : x + 86400 < 2 ^ 31) (hP : Srt kf P) (h0 : hz 0 ≤ x) (hh : ∀ i, 1 ≤ i → i ≤ 3 → hz (i - 1) ≤ bg (ln i) x ∧ hz i < bg (ln i) x + ln i) (hlen : P.length + 1 < 2 ^ 29) (hroom : ∀ i, 1 ≤ i → i ≤ 3 → (gk (ln i) (hz i) P).length < 16384) (hp : (hi kf (hz 0) P).length < 100 ∨ ∃ b ∈ hi kf (hz 0) P, b.1 = x) {kc ks : Nat} (hkc : sC hz P x ≤ kc) (hks : sV hz P C x ≤ ks) {Q : Int32 → MM → Prop} (hq : ∀ (r : Int32) m' g' C', ((∃ b ∈ P, b.1 = x) → r = 1) → ((∀ b ∈ P, b.1 ≠ x) → r = 0) → Srs m' g' c0 s kd hz (ins kf (x, y) P) C' → (∀ i, 1 ≤ i → i ≤ 3 → C' i = capV (bg (ln i) x) (C i) (gk (ln i) (hz i) P)) → (∀ a, mK m a ≠ 0 → g' a = g a) → Fr (fun a => c0 ≤ g a ∧ g a ≤ c0 + 3) m m' → Q r m') : ∃ c6 s7, c6 ≤ kc ∧ s7 ≤ ks ∧ wp_X3_write s (nI x) y m (fun r m' => Q r m') c6 s7 := by
  refine ⟨sC hz P x, sV hz P C x, hkc, hks, ?_⟩
  obtain ⟨p, t, v, U, W, T, B, h1, h2⟩ := h
  have hPt := h1.2.2.2.2.1
  have hex : (∃ b ∈ hi kf (hz 0) P, b.1 = x) ↔ ∃ b ∈ P, b.1 = x := by
    constructor
    · rintro ⟨b, hb, e⟩; exact ⟨b, (mem_hi.mp hb).1, e⟩
    · rintro ⟨b, hb, e⟩; exact ⟨b, mem_hi.mpr ⟨hb, by show hz 0 ≤ b.1; omega⟩, e⟩
  unfold wp_X3_write
  refine ⟨h1.1, p, h1.2.2.1, hPt.1, sp_X0_write hPt (by omega) hp fun r m5 r1 r0 q1 q2 => ⟨sC hz P x, sV hz P C x, Nat.le_refl _, Nat.le_refl _, ?_⟩⟩
  rw [← hi_ins hP h0] at q1
  have hS5 := h1.pts q2 q1
  have hl : (ins kf (x, y) P).length ≤ P.length + 1 := by
    by_cases q : ∃ b ∈ P, b.1 = x
    · obtain ⟨b, hb, e⟩ := q
      rw [ins_old_len (f := kf) hP hb e]
      exact Nat.le_succ _
    · rw [ins_new_len (f := kf) hP (fun b hb e => q ⟨b, hb, e⟩)]
      exact Nat.le_refl _
  refine ⟨hS5.1, sp_refresh_srs hS5 h2 hx hP (hP.ins _) (fun q hq => ?_) hh (by omega) hroom (Nat.le_refl _) (Nat.le_refl _) (fun m' g' C' g1 g2 g3 g4 kc9 ks9 _ _ => ⟨?_, ?_⟩)⟩
  · rw [mem_ins]
    constructor
    · rintro (rfl | z)
      · exact absurd rfl hq
      · exact z.1
    · intro z
      exact Or.inr ⟨z, hq⟩
  · by_cases q : ∃ b ∈ hi kf (hz 0) P, b.1 = x
    · exact Or.inr (r1 q)
    · exact Or.inl (r0 (fun b hb e => q ⟨b, hb, e⟩))
  · have hold : ∀ a, mK m a ≠ 0 → mK m5 a ≠ 0 := fun a ha => by rw [(q2 a ha).1]; exact ha
    refine hq r m' g' C' (fun z => r1 (hex.mpr z)) (fun z => r0 (fun b hb => z b (mem_hi.mp hb).1)) g1 g2 (fun a ha => g3 a (hold a ha)) ?_
    refine Fr.then (q2.mono fun a _ z => ?_) g4 (fun a _ z => z)
    rcases z with rfl | rfl | rfl
    · have := h1.2.2.2.2.2.2.2.1; omega
    · have := h1.2.2.2.2.2.2.2.2.1; omega
    · have := h1.2.2.2.2.2.2.2.2.2.1; omega
