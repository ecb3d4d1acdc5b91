/-! ROWS rise by time, and none has expired -/
/-- what holds of the points of each series -/
def Pk (n ck : Nat) (kd : Nat → Nat) (Pl : Nat → List (Nat × Int32)) : Prop := ck < 2 ^ 29 ∧ ∀ i, i < n → Srt kf (Pl i) ∧ (Pl i).length < 2 ^ 20 ∧ (∀ b ∈ Pl i, b.1 ≤ ck ∧ okV (kd i) b.2) ∧ kd i ≤ 1
theorem Pk.srt {n ck : Nat} {kd : Nat → Nat} {Pl : Nat → List (Nat × Int32)} (h : Pk n ck kd Pl) : ∀ i, i < n → Srt kf (Pl i) := fun i hi => (h.2 i hi).1
theorem Pk.t31 {n ck : Nat} {kd : Nat → Nat} {Pl : Nat → List (Nat × Int32)} (h : Pk n ck kd Pl) {i : Nat} (hi : i < n) : ∀ c ∈ Pl i, c.1 < 2 ^ 31 := fun c hc => by
  have := ((h.2 i hi).2.2.1 c hc).1
  have := h.1
  omega
theorem pw_lt {l : List Nat} (h : l.Pairwise (fun a b => a < b)) {j k y z : Nat} (hj : l[j]? = some y) (hk : l[k]? = some z) (hjk : j < k) : y < z := by
  obtain ⟨a1, a2⟩ := List.getElem?_eq_some_iff.mp hj
  obtain ⟨b1, b2⟩ := List.getElem?_eq_some_iff.mp hk
  have := List.pairwise_iff_getElem.mp h j k a1 b1 hjk
  rw [a2, b2] at this
  exact this
theorem rowT_lt {hz : Nat → Nat} {P : List (Nat × Int32)} (hP : Srt kf P) {t j k y z : Nat} (hj : (rowT hz P t)[j]? = some y) (hk : (rowT hz P t)[k]? = some z) (hjk : j < k) : y < z := by
  refine pw_lt ?_ hj hk hjk
  unfold rowT
  by_cases q : t = 0
  · rw [if_pos q]
    exact List.pairwise_map.mpr (hP.filter _)
  · rw [if_neg q]
    exact List.pairwise_map.mpr (gk_srt hP)
theorem rowT_ok {hz : Nat → Nat} {P : List (Nat × Int32)} (hP : Srt kf P) {ck : Nat} (hc : ∀ b ∈ P, b.1 ≤ ck) {t j y : Nat} (hj : (rowT hz P t)[j]? = some y) : ll t ∣ y ∧ y ≤ ck ∧ (t = 0 → hz 0 ≤ y) ∧ (1 ≤ t → hz t < y + ll t ∧ rl hz P t (y + ll t - 1) ≠ []) := by
  have hm := List.mem_of_getElem? hj
  unfold rowT at hm
  by_cases q : t = 0
  · rw [if_pos q] at hm
    obtain ⟨b, hb, rfl⟩ := List.mem_map.mp hm
    subst q
    exact ⟨⟨b.1, (Nat.one_mul _).symm⟩, hc b (mem_hi.mp hb).1, fun _ => (mem_hi.mp hb).2, fun z => absurd z (by decide)⟩
  · rw [if_neg q] at hm
    obtain ⟨e, he, rfl⟩ := List.mem_map.mp hm
    obtain ⟨g1, g2, g3, g4, g5, g6, p, g7, g8⟩ := gk_e hP he
    have hl : ll t = ln t := ll_ln (by omega)
    have hp := ln_pos t
    rw [hl]
    refine ⟨g1, ?_, fun z => absurd z q, fun _ => ⟨g2, ?_⟩⟩
    · have := bg_le (ln t) p.1
      have := hc p g7
      show e.1 ≤ ck
      omega
    · have hb : bg (ln t) (e.1 + ln t - 1) = e.1 := (bg_iff hp g1 _).mpr ⟨by omega, by omega⟩
      have h9 : rl hz P t (e.1 + ln t - 1) = rl hz P t e.1 := by
        unfold rl
        rw [hb, g5]
      show rl hz P t (e.1 + ln t - 1) ≠ []
      rw [h9, g6]
      exact g3
theorem m1_lt {y : Nat} (h : y < 2 ^ 31) : (-1 : Int32) < nI y := Int32.lt_of_lt_of_le (by decide) (nI_pos' h)
theorem dv_mod {a b : Nat} (h : a ∣ b) : b % a = 0 := by
  obtain ⟨c, hc⟩ := h
  rw [hc]
  exact Nat.mul_mod_right _ _
section
variable {m : MM} {g : Nat → Nat} {o A R Z w su n ck : Nat} {sa kd rt hz : Nat → Nat} {Pl : Nat → List (Nat × Int32)} {Cs : Nat → Nat → Nat}
theorem areRows58 (h : Sto m g o A R Z w su n ck sa kd rt hz Pl Cs) (hK : Pk n ck kd Pl) (hzb : ∀ i, i ≤ 3 → hz i < 2 ^ 31) {z : Nat} (hR : Row m z kd rt hz) {i t : Nat} (hin : i < n) (ht : t ≤ 3) {Q : Int32 → MM → Prop} {K : Nat → Nat → Int32 → Int32 → Int32 → MM → Prop} (hQ : K o z (nI i) 1 (nI (t + 1)) m) : ∀ (k j : Nat) (l5 : Int32), j + k = rws hz (Pl i) t → (∀ y, (rowT hz (Pl i) t)[j]? = some y → l5 < nI y) → wp_L_areRows_58 Q K (k + 1) o z (nI i) 1 (nI t) l5 (nI j) m := by
  have hb := h.rwsb hin ht
  have hck := hK.1
  have hlp := ll_pos t
  have hll := ll_le t
  intro k
  induction k with
  | zero =>
    intro j l5 hj h5
    unfold wp_L_areRows_58
    refine ⟨h.1.1, q_rows h hin ht ⟨fun _ => ?_, fun c => absurd (nI_le (by omega) (by omega)) c⟩⟩
    rw [forall_eq, nI_1]
    exact hQ
  | succ k ih =>
    intro j l5 hj h5
    obtain ⟨y, hy⟩ : ∃ y, (rowT hz (Pl i) t)[j]? = some y := ⟨_, List.getElem?_eq_getElem (by rw [rowT_len]; omega)⟩
    obtain ⟨d1, d2, d3, d4⟩ := rowT_ok (hK.srt i hin) (fun b hb => ((hK.2 i hin).2.2.1 b hb).1) hy
    have hy31 : y < 2 ^ 31 := by omega
    have nxt : wp_L_areRows_58 Q K (k + 1) o z (nI i) 1 (nI t) (nI y) (nI j + 1) m := by
      rw [nI_1]
      refine ih (j + 1) _ (by omega) (fun y' hy' => nI_lt (rowT_lt (hK.srt i hin) hy hy' (Nat.lt_succ_self _)) ?_)
      have := (rowT_ok (hK.srt i hin) (fun b hb => ((hK.2 i hin).2.2.1 b hb).1) hy').2.1
      omega
    unfold wp_L_areRows_58
    refine ⟨h.1.1, q_rows h hin ht ⟨fun c => absurd c (nI_ge (by omega) (by omega)), fun _ => ⟨fun c => absurd c (by decide), fun _ => ⟨h.1.1, q_timeOf h hin ht (by omega) hy ?_⟩⟩⟩⟩
    have er : nI y - nI y / nI (ll t) * nI (ll t) = 0 := by
      rw [pk_rem hy31 hlp (by omega), dv_mod d1]
      exact nI_0
    refine ⟨fun c => absurd (h5 y hy) (Int32.not_lt.mpr c), fun _ => sp_L_length ht ⟨nI_ne0 hlp (by omega), fun c => absurd er c, fun _ => ⟨h.1.1, sp_X5_clock h ⟨fun c => absurd c (nI_nlt d2 (by omega)), fun _ => ⟨fun t0 => ?_, fun t0 => ?_⟩⟩⟩⟩⟩
    · have t1 : 1 ≤ t := by
        rcases Nat.eq_zero_or_pos t with r | r
        · rw [r] at t0
          exact absurd nI_0 t0
        · exact r
      obtain ⟨d5, d6⟩ := d4 t1
      have e1 : nI y + nI (ll t) - (1 : Int32) = nI (y + ll t - 1) := by
        rw [nI_add]
        exact pk_sub (a := y + ll t) (b := 1) (by omega)
      rw [nI_l hy31]
      refine sp_L_isGone hR ht (by omega) (hzb t ht) (fun c => absurd c (by omega)) (fun _ => ⟨fun c => absurd rfl c, fun _ => sp_L_length ht ⟨h.1.1, ?_⟩⟩)
      rw [e1]
      refine q_hasRollup h hK.srt hin t1 ht (by omega) (fun _ => ⟨fun c => absurd c (by decide), fun _ => ?_⟩) (fun c => absurd c d6)
      rw [forall_eq, forall_eq]
      exact nxt
    · have t1 : t = 0 := (nI_eq (a := t) (b := 0) (by omega) (by decide)).mp t0
      have e6 : mAI m z 6 = nI (hz 0) := (hR.2.2.2 0 (by decide)).2
      have d5 := d3 t1
      refine ⟨hR.1, by rw [hR.2.1]; exact vp_in_nI (n := 6) (by decide) (by decide), ?_⟩
      rw [show (6 : Int32).toNatClampNeg = 6 by decide, e6]
      refine ⟨fun c => absurd c (nI_nlt d5 hy31), fun _ => ?_⟩
      rw [forall_eq, forall_eq]
      exact nxt
theorem sp_L_areRows (h : Sto m g o A R Z w su n ck sa kd rt hz Pl Cs) (hK : Pk n ck kd Pl) (hzb : ∀ i, i ≤ 3 → hz i < 2 ^ 31) {z : Nat} (hR : Row m z kd rt hz) {i : Nat} (hin : i < n) {Q : Int32 → MM → Prop} (hq : Q 1 m) : wp_L_areRows o z (nI i) m Q := by
  have hck := hK.1
  have st : ∀ nn t, t ≤ 3 → wp_L_areRows_20 Q nn o z (nI i) 1 (nI (t + 1)) m → wp_L_areRows_20 Q (nn + 1) o z (nI i) 1 (nI t) m := fun nn t ht hn => by
    have e : (6 : Int32) + nI t = nI (6 + t) := nI_add 6 t
    unfold wp_L_areRows_20
    refine ⟨fun c => absurd c (nI_ge (a := t) (b := 4) (by omega) (by decide)), fun _ => ?_⟩
    rw [forall_eq]
    refine ⟨fun c => absurd c (by decide), fun _ => ⟨h.1.1, q_horizon h ht ⟨hR.1, ?_⟩⟩⟩
    rw [e, hR.2.1, nI_clamp (by omega), (hR.2.2.2 t ht).2]
    refine ⟨vp_in_nI (by omega) (by decide), fun c => absurd rfl c, fun _ => ?_⟩
    rw [forall_eq, forall_eq]
    refine ⟨_, areRows58 h hK hzb hR hin ht hn _ 0 _ (Nat.zero_add _) (fun y hy => m1_lt ?_)⟩
    have := (rowT_ok (hK.srt i hin) (fun b hb => ((hK.2 i hin).2.2.1 b hb).1) hy).2.1
    omega
  unfold wp_L_areRows
  have hb := h.h100' hin
  have hr : rws hz (Pl i) 0 = (hi kf (hz 0) (Pl i)).length := by unfold rws; exact if_pos rfl
  refine ⟨h.1.1, q_rows h hin (t := 0) (by decide) ⟨fun c => absurd c (nI_nlt (a := 100) (by omega) (by decide)), fun _ => ?_⟩⟩
  rw [forall_eq, forall_eq]
  refine ⟨5, st 4 0 (by decide) (st 3 1 (by decide) (st 2 2 (by decide) (st 1 3 (by decide) ?_)))⟩
  unfold wp_L_areRows_20
  exact ⟨fun _ => ⟨Or.inr rfl, hq⟩, fun c => absurd (nI_le (a := 4) (b := 4) (by decide) (by decide)) c⟩
end
