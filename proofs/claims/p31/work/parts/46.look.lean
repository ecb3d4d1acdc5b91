/-! LOOKING A POINT UP -/
theorem sp_X5_placeOfPoint {m : MM} {p t v s : Nat} {l : List (Nat × Int32)} (k4 : mK m s = 4) (hp : mR m 61 s = some p) (hPt : Pts m p t v l) {tm : Int32} {Q : Int32 → MM → Prop} {X : Nat → MM → Prop} (h1 : ∀ b ∈ l, tm = nI b.1 → l[(lo kf b.1 l).length]? = some b → Q (nI (lo kf b.1 l).length) m) (h0 : (∀ b ∈ l, nI b.1 ≠ tm) → X 2 m) : wp_X5_placeOfPoint s tm m Q X := by
  unfold wp_X5_placeOfPoint
  refine ⟨k4, p, hp, hPt.1, sp_X0_placeFrom hPt tm ⟨k4, p, hp, hPt.1, ?_⟩⟩
  refine sp_X0_isAt hPt tm (fun b hb e hj => ⟨fun _ => ?_, fun z => absurd z (by decide)⟩) (fun z => ⟨fun y => absurd rfl y, fun _ => h0 z⟩)
  have hb2 := hPt.2.2.2.2.2.2.2.2.2.2.2.1 b hb
  have ec : tm.toNatClampNeg = b.1 := by rw [← e]; exact nI_clamp hb2
  rw [ec] at hj ⊢
  exact h1 b hb e.symm hj
theorem sp_X5_valueAt {m : MM} {g : Nat → Nat} {o A R Z w su n ck : Nat} {sa kd rt hz : Nat → Nat} {Pl : Nat → List (Nat × Int32)} {Cs : Nat → Nat → Nat} (h : Sto m g o A R Z w su n ck sa kd rt hz Pl Cs) {p1 p2 : Int32} {Q : Int32 → MM → Prop} {X : Nat → MM → Prop} (hX0 : (p1 < 0 ∨ ¬ p1 < nI n) → X 0 m) (hX2 : ∀ i, i < n → p1 = nI i → (∀ b ∈ hi kf (hz 0) (Pl i), nI b.1 ≠ p2) → X 2 m) (hQ : ∀ i b, i < n → p1 = nI i → b ∈ hi kf (hz 0) (Pl i) → p2 = nI b.1 → Q b.2 m) : wp_X5_valueAt o p1 p2 m Q X := by
  unfold wp_X5_valueAt
  refine ⟨h.1.1, sp_X5_seriesAt h (fun i hin e => ⟨sa i, rfl, ?_⟩) hX0⟩
  obtain ⟨-, p, t, v, U, WW, T, B, s3, -⟩ := h.2.2.2.2.2 i hin
  have hPt := s3.2.2.2.2.1
  obtain ⟨a1, a2, a3, a4, a5, a6, a7, a8, a9, b1, b2, b3, b4⟩ := id hPt
  refine ⟨s3.1, p, s3.2.2.1, a1, v, a3, sp_X5_placeOfPoint s3.1 s3.2.2.1 hPt (fun b hb e2 hj => ?_) (hX2 i hin e)⟩
  have hlt := (List.getElem?_eq_some_iff.mp hj).1
  rw [a8, nI_clamp (by omega), (b2 _ b hj).2]
  exact ⟨a6, vp_in_nI (by omega) (by omega), hQ i b hin e hb e2⟩
