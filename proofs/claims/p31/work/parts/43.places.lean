/-! WRITING: what the store asks of a point -/
theorem sub_toInt {a b : Nat} (ha : a < 2 ^ 31) (hb : b < 2 ^ 31) : (nI a - nI b).toInt = (a : Int) - (b : Int) := by
  rw [Int32.toInt_sub, nI_toInt ha, nI_toInt hb]
  exact Int.bmod_eq_of_le (by omega) (by omega)
theorem old_iff {c x : Nat} (hc : c < 2 ^ 31) (hx : x < 2 ^ 31) : nI c - (3600 : Int32) ≤ nI x ↔ c ≤ x + 3600 := by
  rw [show (3600 : Int32) = nI 3600 by decide, Int32.le_iff_toInt_le, sub_toInt hc (by decide), nI_toInt hx]
  omega
theorem sp_X5_isTooOld {m : MM} {g : Nat → Nat} {o A R Z w su n ck : Nat} {sa kd rt hz : Nat → Nat} {Pl : Nat → List (Nat × Int32)} {Cs : Nat → Nat → Nat} (h : Sto m g o A R Z w su n ck sa kd rt hz Pl Cs) (hc : ck < 2 ^ 31) {x : Nat} (hx : x < 2 ^ 31) {Q : Int32 → MM → Prop} (h0 : ck ≤ x + 3600 → Q 0 m) (h1 : x + 3600 < ck → Q 1 m) : wp_X5_isTooOld o (nI x) m Q := by
  unfold wp_X5_isTooOld
  rw [h.1.2.2.2.1, old_iff hc hx]
  exact ⟨h.1.1, h0, fun z => h1 (by omega)⟩
theorem sp_X5_hasPlace {m : MM} {g : Nat → Nat} {o A R Z w su n ck : Nat} {sa kd rt hz : Nat → Nat} {Pl : Nat → List (Nat × Int32)} {Cs : Nat → Nat → Nat} (h : Sto m g o A R Z w su n ck sa kd rt hz Pl Cs) (hc : ck < 2 ^ 31) {i : Nat} (hin : i < n) {x : Nat} (hx : x < 2 ^ 31) {Q : Int32 → MM → Prop} (h1 : ck ≤ x + 3600 ∧ ((hi kf (hz 0) (Pl i)).length < 100 ∨ ∃ b ∈ hi kf (hz 0) (Pl i), b.1 = x) → Q 1 m) (h0 : ¬ (ck ≤ x + 3600 ∧ ((hi kf (hz 0) (Pl i)).length < 100 ∨ ∃ b ∈ hi kf (hz 0) (Pl i), b.1 = x)) → Q 0 m) : wp_X5_hasPlace o (sa i) (nI x) m Q := by
  obtain ⟨-, p, t, v, U, WW, T, B, s3, -⟩ := h.2.2.2.2.2 i hin
  have hPt := s3.2.2.2.2.1
  unfold wp_X5_hasPlace
  refine ⟨s3.1, p, s3.2.2.1, h.1.1, sp_X5_isTooOld h hc hx (fun y => ⟨fun z => absurd rfl z, fun _ => ⟨hPt.1, ?_⟩⟩) (fun y => ⟨fun _ => h0 (fun z => by omega), fun z => absurd z (by decide)⟩)⟩
  rw [hPt.2.2.2.2.2.2.2.2.2.1, show (100 : Int32) = nI 100 by decide]
  have hl := hPt.2.2.2.2.2.2.2.2.1
  refine ⟨fun z => h1 ⟨y, Or.inl ((nI_ltI (by omega) (by omega)).mp z)⟩, fun z => ⟨hPt.1, sp_X0_placeFrom hPt (nI x) ⟨hPt.1, ?_⟩⟩⟩
  rw [nI_clamp hx]
  refine sp_X0_isAtN hPt hx (fun b hb e _ => ⟨fun q => absurd q (by decide), fun _ => h1 ⟨y, Or.inr ⟨b, hb, e⟩⟩⟩) (fun q => ⟨fun _ => h0 fun r => ?_, fun r => absurd rfl r⟩)
  rcases r.2 with r | ⟨b, hb, e⟩
  · exact z ((nI_ltI (by omega) (by omega)).mpr r)
  · exact q b hb e
