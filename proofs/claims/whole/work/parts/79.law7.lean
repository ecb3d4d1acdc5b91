/-! THE LAW'S LOOP OVER ITS CALLS -/
section
variable {x : Nat → Nat} {xs : Nat → Int32} {LL : Nat}
theorem lw_loop (hL : LL ≤ 3584) : ∀ (c j : Nat) (m : MM) (kc ks : Nat), Lw x m c kc ks → LL < 7 * (j + c + 1) → 7 * j ≤ LL + 6 → wp_L_law_28 xs LL (c + 1) (x 0) (x 6) (x 14) (x 15) (nI (7 * j)) m kc ks := by
  have key : ∀ j, 7 * j ≤ LL + 6 → ((Int32.ofNat LL) - (7 : Int32) < nI (7 * j) ↔ LL < 7 * j + 7) := fun j hj => by
    rw [show (Int32.ofNat LL) - (7 : Int32) = nI LL - nI 7 from rfl, Int32.lt_iff_toInt_lt, pk_sub_toInt (by omega) (by decide), nI_toInt (by omega)]
    omega
  intro c
  induction c with
  | zero =>
    intro j m kc ks h h1 h2
    unfold wp_L_law_28
    exact ⟨fun _ => trivial, fun z => absurd ((key j h2).mpr (by omega)) z⟩
  | succ c ih =>
    intro j m kc ks h h1 h2
    unfold wp_L_law_28
    refine ⟨fun _ => trivial, fun z => ?_⟩
    have hj : 7 * j + 7 ≤ LL := Nat.le_of_not_lt fun q => z ((key j h2).mpr q)
    obtain ⟨g, n, ck, sa, kd, rt, hz, Cs, al, hB, hI, hkc, hks⟩ := h
    have e7 : nI (7 * j) + 7 = nI (7 * (j + 1)) := nI_add (7 * j) 7
    have hv : ∀ i, 1 ≤ i → i ≤ 6 → vp_in (nI (7 * j) + nI i) LL := fun i _ i6 => by
      rw [nI_add]
      exact vp_in_nI (by omega) (by omega)
    have hK : ∀ m' kc' ks', Lw x m' c kc' ks' → wp_L_law_28 xs LL (c + 1) (x 0) (x 6) (x 14) (x 15) (nI (7 * j) + 7) m' kc' ks' := fun m' kc' ks' h' => by
      rw [e7]
      exact ih (j + 1) m' kc' ks' h' (by omega) (by omega)
    refine ⟨vp_in_nI (by omega) (by omega), fun x52 e52 => ?_⟩
    exact ⟨fun _ => lc_172 hB hI hkc hks hv hK, fun _ => lc_228 hB hI hkc hks hv hK, fun _ => lc_315 hB hI hkc hks hv hK, fun _ => lc_433 hB hI hkc hks hv hK, fun _ => lc_501 hB hI hkc hks hv hK, fun _ => lc_557 hB hI hkc hks hv hK, fun _ => lc_625 hB hI hkc hks hv hK, fun _ => lc_638 hB hI hkc hks hv hK, fun _ => lc_651 hB hI hkc hks hv hK, fun _ => lc_707 hB hI hkc hks hv hK, fun _ => lc_775 hB hI hkc hks hv hK, fun _ => lc_855 hB hI hkc hks hv hK, fun _ => lc_923 hB hI hkc hks hv hK, fun _ => lc_1010 hB hI hkc hks hv hK, fun _ => lc_1090 hB hI hkc hks hv hK, fun _ => lc_1169 hB hI hkc hks hv hK, fun _ => lc_1270 hB hI hkc hks hv hK, fun _ => lc_1350 hB hI hkc hks hv hK, fun _ => lc_1430 hB hI hkc hks hv hK, fun _ => lc_1510 hB hI hkc hks hv hK, fun _ => lc_1590 hB hI hkc hks hv hK, fun _ => lc_1682 hB hI hkc hks hv hK, fun _ => lc_1750 hB hI hkc hks hv hK, fun _ => lc_1825 hB hI hkc hks hv hK, fun _ => lc_1904 hB hI hkc hks hv hK, fun _ => lc_1983 hB hI hkc hks hv hK, fun _ => lc_2062 hB hI hkc hks hv hK, fun _ => lc_2163 hB hI hkc hks hv hK, fun _ y e => by
      rw [e]
      exact hK m kc ks (hB.less hI hkc hks (Nat.zero_le _) (Nat.zero_le _))⟩
end
