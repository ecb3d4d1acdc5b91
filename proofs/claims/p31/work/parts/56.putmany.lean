/-! WHAT WRITES COST, and many writes -/
theorem grp_len (len : Nat) : ∀ l : List (Nat × Int32), (grp len l).length ≤ l.length
  | [] => Nat.le_refl _
  | p :: l => by
    have ih := grp_len len l
    unfold grp
    cases e : grp len l with
    | nil => exact Nat.succ_le_succ (Nat.zero_le _)
    | cons g r =>
      rw [e] at ih
      by_cases q : g.1 = bg len p.1
      · simp only [if_pos q]
        rw [List.length_cons, List.length_cons] at *
        omega
      · simp only [if_neg q]
        rw [List.length_cons, List.length_cons] at *
        rw [List.length_cons]
        omega
theorem gk_len (len h : Nat) (l : List (Nat × Int32)) : (gk len h l).length ≤ l.length := Nat.le_trans (List.length_filter_le _ _) (grp_len len l)
/-- the places that a tier's row of rollups may have -/
def pw (C : Nat) : Prop := C = 8 ∨ C = 16 ∨ C = 32 ∨ C = 64 ∨ C = 128 ∨ C = 256 ∨ C = 512 ∨ C = 1024 ∨ C = 2048 ∨ C = 4096 ∨ C = 8192 ∨ C = 16384
theorem pw_le {C : Nat} (h : pw C) : 8 ≤ C ∧ C ≤ 16384 := by
  unfold pw at h
  omega
theorem pw_gro {C : Nat} (h : pw C) (hC : C < 16384) : gro C = 2 * C ∧ pw (2 * C) := by
  unfold pw at h ⊢
  unfold gro
  constructor
  · rw [if_neg (by omega)]
  · omega
/-- what is left to spend on places -/
def bud (C : Nat → Nat) : Nat := 2 * (16384 - C 1) + 2 * (16384 - C 2) + 2 * (16384 - C 3)
/-- the places behind a write at x -/
def cN (hz : Nat → Nat) (P : List (Nat × Int32)) (C : Nat → Nat) (x : Nat) : Nat → Nat := fun j => capV (bg (ln j) x) (C j) (gk (ln j) (hz j) P)
theorem cV_one {b C : Nat} {V : List (Nat × List Int32)} (h : pw C) (hl : V.length < 16384) : cV b C V + 2 * (16384 - capV b C V) ≤ 8 + 2 * (16384 - C) ∧ pw (capV b C V) := by
  unfold cV capV
  by_cases q : ∃ x ∈ V, x.1 = b
  · rw [if_pos q, if_pos q]
    exact ⟨by omega, h⟩
  · rw [if_neg q, if_neg q]
    by_cases r : C ≤ V.length
    · obtain ⟨e1, e2⟩ := pw_gro h (by omega)
      rw [if_pos r, if_pos r, e1]
      have := pw_le e2
      exact ⟨by omega, e2⟩
    · rw [if_neg r, if_neg r]
      exact ⟨by omega, h⟩
theorem sV_one {hz : Nat → Nat} {P : List (Nat × Int32)} {C : Nat → Nat} {x : Nat} (h : ∀ j, 1 ≤ j → j ≤ 3 → pw (C j)) (hl : P.length < 16384) : sV hz P C x + bud (cN hz P C x) ≤ 24 + bud C ∧ ∀ j, 1 ≤ j → j ≤ 3 → pw (cN hz P C x j) := by
  have k : ∀ j, 1 ≤ j → j ≤ 3 → cV (bg (ln j) x) (C j) (gk (ln j) (hz j) P) + 2 * (16384 - cN hz P C x j) ≤ 8 + 2 * (16384 - C j) ∧ pw (cN hz P C x j) := fun j a b => cV_one (h j a b) (Nat.lt_of_le_of_lt (gk_len _ _ _) hl)
  have k1 := k 1 (by decide) (by decide)
  have k2 := k 2 (by decide) (by decide)
  have k3 := k 3 (by decide) (by decide)
  refine ⟨?_, fun j a b => (k j a b).2⟩
  unfold sV bud
  omega
theorem sC_le (hz : Nat → Nat) (P : List (Nat × Int32)) (x : Nat) : sC hz P x ≤ 6 := by
  have k : ∀ b V, cC b V ≤ 2 := fun b V => by
    unfold cC
    by_cases q : ∃ x ∈ V, x.1 = b
    · rw [if_pos q]; omega
    · rw [if_neg q]; exact Nat.le_refl _
  have k1 := k (bg (ln 1) x) (gk (ln 1) (hz 1) P)
  have k2 := k (bg (ln 2) x) (gk (ln 2) (hz 2) P)
  have k3 := k (bg (ln 3) x) (gk (ln 3) (hz 3) P)
  unfold sC
  omega
theorem Srs.cap {m : MM} {g : Nat → Nat} {c0 s kd : Nat} {hz : Nat → Nat} {P : List (Nat × Int32)} {C C' : Nat → Nat} (h : Srs m g c0 s kd hz P C) (hC : ∀ j, 1 ≤ j → j ≤ 3 → C' j = C j) : Srs m g c0 s kd hz P C' := by
  obtain ⟨p, t, v, U, W, T, B, ⟨h1, h2, h3, h4, h5, h6, h7⟩, h8⟩ := h
  exact ⟨p, t, v, U, W, T, B, ⟨h1, h2, h3, h4, h5, fun i a b => by rw [hC i a b]; exact h6 i a b, h7⟩, h8⟩
theorem ins_len {x : Nat} {y : Int32} {P : List (Nat × Int32)} (hP : Srt kf P) : (ins kf (x, y) P).length ≤ P.length + 1 := by
  by_cases q : ∃ b ∈ P, b.1 = x
  · obtain ⟨b, hb, e⟩ := q
    rw [ins_old_len (f := kf) hP hb e]
    exact Nat.le_succ _
  · rw [ins_new_len (f := kf) hP (fun b hb e => q ⟨b, hb, e⟩)]
    exact Nat.le_refl _
/-- sp_X3_write, for all that it may cost -/
theorem sp_X3_writeK {m : MM} {g : Nat → Nat} {c0 s kd : Nat} {hz : Nat → Nat} {P : List (Nat × Int32)} {C : Nat → Nat} (h : Srs m g c0 s kd hz P C) {x : Nat} {y : Int32} (hx : x + 86400 < 2 ^ 31) (hP : Srt kf P) (h0 : hz 0 ≤ x) (hh : ∀ i, 1 ≤ i → i ≤ 3 → hz (i - 1) ≤ bg (ln i) x ∧ hz i < bg (ln i) x + ln i) (hlen : P.length + 1 < 2 ^ 29) (hroom : ∀ i, 1 ≤ i → i ≤ 3 → (gk (ln i) (hz i) P).length < 16384) (hp : (hi kf (hz 0) P).length < 100 ∨ ∃ b ∈ hi kf (hz 0) P, b.1 = x) {kc ks : Nat} (hkc : sC hz P x ≤ kc) (hks : sV hz P C x ≤ ks) {Q : Int32 → MM → Prop} (hq : ∀ (r : Int32) m' g' C', ((∃ b ∈ P, b.1 = x) → r = 1) → ((∀ b ∈ P, b.1 ≠ x) → r = 0) → Srs m' g' c0 s kd hz (ins kf (x, y) P) C' → (∀ i, 1 ≤ i → i ≤ 3 → C' i = capV (bg (ln i) x) (C i) (gk (ln i) (hz i) P)) → (∀ a, mK m a ≠ 0 → g' a = g a) → Fr (fun a => c0 ≤ g a ∧ g a ≤ c0 + 3) m m' → Q r m') : wp_X3_write s (nI x) y m Q kc ks := by
  obtain ⟨p, t, v, U, W, T, B, h1, h2⟩ := h
  have hPt := h1.2.2.2.2.1
  have hex : (∃ b ∈ hi kf (hz 0) P, b.1 = x) ↔ ∃ b ∈ P, b.1 = x := by
    constructor
    · rintro ⟨b, hb, e⟩; exact ⟨b, (mem_hi.mp hb).1, e⟩
    · rintro ⟨b, hb, e⟩; exact ⟨b, mem_hi.mpr ⟨hb, by show hz 0 ≤ b.1; omega⟩, e⟩
  unfold wp_X3_write
  refine ⟨h1.1, p, h1.2.2.1, hPt.1, sp_X0_write hPt (by omega) hp fun r m5 r1 r0 q1 q2 => ⟨sC hz P x, sV hz P C x, hkc, hks, ?_⟩⟩
  rw [← hi_ins hP h0] at q1
  have hS5 := h1.pts q2 q1
  have hl : (ins kf (x, y) P).length ≤ P.length + 1 := by
    by_cases q : ∃ b ∈ P, b.1 = x
    · obtain ⟨b, hb, e⟩ := q
      rw [ins_old_len (f := kf) hP hb e]
      exact Nat.le_succ _
    · rw [ins_new_len (f := kf) hP (fun b hb e => q ⟨b, hb, e⟩)]
      exact Nat.le_refl _
  refine ⟨hS5.1, sp_refresh_srs hS5 h2 hx hP (hP.ins _) (fun q hq => ?_) hh (by omega) hroom (Nat.le_refl _) (Nat.le_refl _) (fun m' g' C' g1 g2 g3 g4 kc9 ks9 _ _ => ⟨?_, ?_⟩)⟩
  · rw [mem_ins]
    constructor
    · rintro (rfl | z)
      · exact absurd rfl hq
      · exact z.1
    · intro z
      exact Or.inr ⟨z, hq⟩
  · by_cases q : ∃ b ∈ hi kf (hz 0) P, b.1 = x
    · exact Or.inr (r1 q)
    · exact Or.inl (r0 (fun b hb e => q ⟨b, hb, e⟩))
  · have hold : ∀ a, mK m a ≠ 0 → mK m5 a ≠ 0 := fun a ha => by rw [(q2 a ha).1]; exact ha
    refine hq r m' g' C' (fun z => r1 (hex.mpr z)) (fun z => r0 (fun b hb => z b (mem_hi.mp hb).1)) g1 g2 (fun a ha => g3 a (hold a ha)) ?_
    refine Fr.then (q2.mono fun a _ z => ?_) g4 (fun a _ z => z)
    rcases z with rfl | rfl | rfl
    · have := h1.2.2.2.2.2.2.2.1; omega
    · have := h1.2.2.2.2.2.2.2.2.1; omega
    · have := h1.2.2.2.2.2.2.2.2.2.1; omega
/-- whether a point may be written, state and arguments -/
def okP (hz : Nat → Nat) (ck k : Nat) (P : List (Nat × Int32)) (x : Nat) (v : Int32) : Prop := (x ≤ ck ∧ okV k v) ∧ (ck ≤ x + 3600 ∧ ((hi kf (hz 0) P).length < 100 ∨ ∃ b ∈ hi kf (hz 0) P, b.1 = x))
/-- what up to k writes from the d-th on make of the points and the places; s: what the places cost -/
def PM (hz : Nat → Nat) (ck kdi x0 st : Nat) (v0 rs : Int32) : Nat → Nat → List (Nat × Int32) → (Nat → Nat) → Nat → List (Nat × Int32) → (Nat → Nat) → Nat → Prop
  | 0, d, P, C, d', P', C', s => d' = d ∧ P' = P ∧ C' = C ∧ s = 0
  | k + 1, d, P, C, d', P', C', s => (okP hz ck kdi P (x0 + d * st) (v0 + nI d * rs) ∧ ∃ s1, PM hz ck kdi x0 st v0 rs k (d + 1) (ins kf (x0 + d * st, v0 + nI d * rs) P) (cN hz P C (x0 + d * st)) d' P' C' s1 ∧ s = s1 + sV hz P C (x0 + d * st)) ∨ (¬ okP hz ck kdi P (x0 + d * st) (v0 + nI d * rs) ∧ d' = d ∧ P' = P ∧ C' = C ∧ s = 0)
theorem PM_ex (hz : Nat → Nat) (ck kdi x0 st : Nat) (v0 rs : Int32) : ∀ (k d : Nat) (P : List (Nat × Int32)) (C : Nat → Nat), ∃ d' P' C' s, PM hz ck kdi x0 st v0 rs k d P C d' P' C' s
  | 0, d, P, C => ⟨d, P, C, 0, rfl, rfl, rfl, rfl⟩
  | k + 1, d, P, C => by
    by_cases q : okP hz ck kdi P (x0 + d * st) (v0 + nI d * rs)
    · obtain ⟨d', P', C', s, h⟩ := PM_ex hz ck kdi x0 st v0 rs k (d + 1) (ins kf (x0 + d * st, v0 + nI d * rs) P) (cN hz P C (x0 + d * st))
      exact ⟨d', P', C', _, Or.inl ⟨q, s, h, rfl⟩⟩
    · exact ⟨d, P, C, 0, Or.inr ⟨q, rfl, rfl, rfl, rfl⟩⟩
theorem PM_is (hz : Nat → Nat) (ck kdi x0 st : Nat) (v0 rs : Int32) : ∀ (k d : Nat) (P : List (Nat × Int32)) (C : Nat → Nat) (d' : Nat) (P' : List (Nat × Int32)) (C' : Nat → Nat) (s : Nat), PM hz ck kdi x0 st v0 rs k d P C d' P' C' s → Srt kf P → P.length + k < 16384 → (∀ j, 1 ≤ j → j ≤ 3 → pw (C j)) → (∀ b ∈ P, b.1 ≤ ck ∧ okV kdi b.2) → s + bud C' ≤ 24 * k + bud C ∧ (∀ j, 1 ≤ j → j ≤ 3 → pw (C' j)) ∧ Srt kf P' ∧ P'.length ≤ P.length + k ∧ (∀ b ∈ P', b.1 ≤ ck ∧ okV kdi b.2) ∧ d ≤ d' ∧ d' ≤ d + k
  | 0, d, P, C, d', P', C', s, h, hP, hl, hC, hv => by
    obtain ⟨rfl, rfl, rfl, rfl⟩ := h
    exact ⟨by omega, hC, hP, Nat.le_refl _, hv, Nat.le_refl _, Nat.le_refl _⟩
  | k + 1, d, P, C, d', P', C', s, h, hP, hl, hC, hv => by
    rcases h with ⟨q, s1, h, rfl⟩ | ⟨q, rfl, rfl, rfl, rfl⟩
    · obtain ⟨c1, c2⟩ := sV_one (hz := hz) (P := P) (C := C) (x := x0 + d * st) hC (by omega)
      have hil := ins_len (x := x0 + d * st) (y := v0 + nI d * rs) hP
      obtain ⟨i1, i2, i3, i4, i5, i6, i7⟩ := PM_is hz ck kdi x0 st v0 rs k (d + 1) _ _ d' P' C' s1 h (hP.ins _) (by omega) c2 (fun b hb => by
        rcases mem_ins.mp hb with rfl | ⟨z, -⟩
        · exact q.1
        · exact hv b z)
      exact ⟨by omega, i2, i3, by omega, i5, by omega, by omega⟩
    · exact ⟨by omega, hC, hP, by omega, hv, Nat.le_refl _, by omega⟩
section
variable {m : MM} {g : Nat → Nat} {o A R Z w su n ck : Nat} {sa kd rt hz : Nat → Nat} {Pl : Nat → List (Nat × Int32)} {Cs : Nat → Nat → Nat}
theorem up_up {α : Type} (f : Nat → α) (i : Nat) (a b : α) : va_up (va_up f i a) i b = va_up f i b := by
  funext j
  by_cases q : j = i
  · rw [q, va_up_self, va_up_self]
  · rw [va_up_ne _ _ q, va_up_ne _ _ q, va_up_ne _ _ q]
theorem up_self2 {α : Type} (f : Nat → α) (i : Nat) : va_up f i (f i) = f := by
  funext j
  by_cases q : j = i
  · rw [q, va_up_self]
  · rw [va_up_ne _ _ q]
theorem Sto.cap (h : Sto m g o A R Z w su n ck sa kd rt hz Pl Cs) {Cs' : Nat → Nat → Nat} (hC : ∀ i, i < n → ∀ j, 1 ≤ j → j ≤ 3 → Cs' i j = Cs i j) : Sto m g o A R Z w su n ck sa kd rt hz Pl Cs' := by
  obtain ⟨a, b, c, d, e, f⟩ := h
  exact ⟨a, b, c, d, e, fun i hi => ⟨(f i hi).1, (f i hi).2.cap (hC i hi)⟩⟩
theorem sp_X5_putMany_loop {i x0 st : Nat} {v0 rs : Int32} (hin : i < n) (hkd : ∀ i, i < n → kd i ≤ 1) (hc : ck + 86400 < 2 ^ 31) (hx0 : x0 ≤ ck) (hx9 : ck + 72000 < 2 ^ 31) (hst : st ≤ 3600) (hzs : (hz 0 = 0 ∨ hz 0 + 7200 ≤ ck) ∧ (hz 1 = 0 ∨ hz 1 + 7200 ≤ ck) ∧ (hz 2 = 0 ∨ hz 2 + 90000 ≤ ck) ∧ (hz 3 = 0 ∨ hz 3 + 90000 ≤ ck)) {Q : Int32 → MM → Prop} {X : Nat → MM → Prop} {d' : Nat} {P' : List (Nat × Int32)} {C' : Nat → Nat} : ∀ (k d : Nat) (m : MM) (g : Nat → Nat) (Pl : Nat → List (Nat × Int32)) (Cs : Nat → Nat → Nat) (s kc ks : Nat), d + k ≤ 20 → Sto m g o A R Z w su n ck sa kd rt hz Pl Cs → Srt kf (Pl i) → (Pl i).length + k < 16384 → PM hz ck (kd i) x0 st v0 rs k d (Pl i) (Cs i) d' P' C' s → 6 * k ≤ kc → s ≤ ks → (∀ m' g', Sto m' g' o A R Z w su n ck sa kd rt hz (va_up Pl i P') (va_up Cs i C') → (∀ a, mK m a ≠ 0 → g' a = g a) → Fr (fun a => 16 ≤ g a) m m' → Q (nI d') m') → wp_X5_putMany_53 Q X (k + 1) o (nI x0) v0 (nI st) rs (nI (d + k)) (sa i) (nI d) m kc ks := by
  intro k
  induction k with
  | zero =>
    intro d m g Pl Cs s kc ks hdk h hP hl hPM hkc hks hq
    obtain ⟨rfl, rfl, rfl, rfl⟩ := hPM
    unfold wp_X5_putMany_53
    refine ⟨fun _ => ?_, fun z => absurd (Int32.le_refl _) z⟩
    exact hq m g (by rw [up_self2, up_self2]; exact h) (fun _ _ => rfl) (Fr.refl _ _)
  | succ k ih =>
    intro d m g Pl Cs s kc ks hdk h hP hl hPM hkc hks hq
    have hle : d * st ≤ 19 * 3600 := Nat.mul_le_mul (by omega) hst
    have e1 : nI x0 + nI d * nI st = nI (x0 + d * st) := by rw [pk_mul, nI_add]
    have hx31 : x0 + d * st < 2 ^ 31 := by omega
    have hstay : ¬ okP hz ck (kd i) (Pl i) (x0 + d * st) (v0 + nI d * rs) → Q (nI d) m := fun z => by
      rcases hPM with ⟨q, -⟩ | ⟨q, rfl, rfl, rfl, rfl⟩
      · exact absurd q z
      · exact hq m g (by rw [up_self2, up_self2]; exact h) (fun _ _ => rfl) (Fr.refl _ _)
    unfold wp_X5_putMany_53
    refine ⟨fun z => absurd ((nI_leI (by omega) (by omega)).mp z) (by omega), fun _ x55 e55 x56 e56 => ⟨h.1.1, ?_⟩⟩
    rw [e55, e56, e1]
    refine sp_X5_isPoint h hkd (by omega) hin (fun x ex hx hv => ⟨fun z => absurd z (by decide), fun _ => ⟨h.1.1, ?_⟩⟩) (fun z => ⟨fun _ => hstay (fun y => z _ rfl y.1.1 y.1.2), fun y => absurd rfl y⟩)
    have ex2 : x0 + d * st = x := (nI_eq hx31 (by omega)).mp ex
    rw [← ex2] at hx
    refine sp_X5_hasPlace h (by omega) hin hx31 (fun y => ⟨fun _ => ?_, fun z => absurd z (by decide)⟩) (fun y => ⟨fun z => absurd rfl z, fun _ => hstay (fun z => y z.2)⟩)
    obtain ⟨s1, s2⟩ := h.2.2.2.2.2 i hin
    have k4 : mK m (sa i) = 4 := by
      obtain ⟨p, t, v, U, WW, T, B, s3, -⟩ := s2
      exact s3.1
    rcases hPM with ⟨q, s9, hPM, es⟩ | ⟨q, -⟩
    · obtain ⟨z0, z1⟩ := hz_ok hzs.1 hzs.2.1 hzs.2.2.1 hzs.2.2.2 y.1
      have hgl : ∀ j, 1 ≤ j → j ≤ 3 → (gk (ln j) (hz j) (Pl i)).length < 16384 := fun j _ _ => Nat.lt_of_le_of_lt (gk_len _ _ _) (by omega)
      have hil := ins_len (x := x0 + d * st) (y := v0 + nI d * rs) hP
      have hc6 := sC_le hz (Pl i) (x0 + d * st)
      have k0 : x0 + d * st + 86400 < 2 ^ 31 := by clear y; omega
      have kP : (Pl i).length + 1 < 2 ^ 29 := by clear y; omega
      refine ⟨sC hz (Pl i) (x0 + d * st), sV hz (Pl i) (Cs i) (x0 + d * st), by omega, by omega, k4, sp_X3_writeK s2 k0 hP z0 z1 kP hgl y.2 (Nat.le_refl _) (Nat.le_refl _) (fun r m' g' Cw r1 r0 q1 q2 q3 q4 kc72 ks73 ek72 ek73 x76 e76 => ?_)⟩
      have S' := h.wr hin (q1.cap (C' := cN hz (Pl i) (Cs i) (x0 + d * st)) (fun j a b => (q2 j a b).symm)) q3 q4
      rw [e76, nI_1, show d + (k + 1) = d + 1 + k by omega]
      have key := ih (d + 1) m' g' (va_up Pl i (ins kf (x0 + d * st, v0 + nI d * rs) (Pl i))) (va_up Cs i (cN hz (Pl i) (Cs i) (x0 + d * st))) s9 kc72 ks73 (by omega) S' (by rw [va_up_self]; exact hP.ins _) (by rw [va_up_self]; omega) (by rw [va_up_self, va_up_self]; exact hPM) (by omega) (by omega) (fun m'' g'' w1 w2 w3 => ?_)
      · exact key
      · rw [up_up, up_up] at w1
        have hold : ∀ b, mK m b ≠ 0 → mK m' b ≠ 0 := fun b hb => by rw [(q4 b hb).1]; exact hb
        exact hq m'' g'' w1 (fun b hb => (w2 b (hold b hb)).trans (q3 b hb)) ((q4.mono fun b _ z => Nat.le_trans (Nat.le_add_right _ _) z.1).then w3 fun b hb z => by rw [q3 b hb] at z; exact z)
    · exact absurd ⟨⟨hx, hv⟩, y⟩ q
end
