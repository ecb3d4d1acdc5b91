/-! THE TALE of a series, as a number -/
/-- a rollup that a tier keeps -/
theorem gk_e {hz : Nat → Nat} {P : List (Nat × Int32)} {t : Nat} (hP : Srt kf P) {e : Nat × List Int32} (he : e ∈ gk (ln t) (hz t) P) : ln t ∣ e.1 ∧ hz t < e.1 + ln t ∧ e.2 ≠ [] ∧ e.2 = vl (ln t) e.1 P ∧ bg (ln t) e.1 = e.1 ∧ rl hz P t e.1 = e.2 ∧ ∃ p ∈ P, bg (ln t) p.1 = e.1 := by
  obtain ⟨h1, h2, h3⟩ := (mem_gk (b := e.1) (vs := e.2) hP).mp he
  obtain ⟨h4, h5⟩ := gk_dvd hP he
  have h6 : bg (ln t) e.1 = e.1 := (bg_iff (ln_pos t) h4 e.1).mpr ⟨Nat.le_refl _, Nat.lt_add_of_pos_right (ln_pos t)⟩
  refine ⟨h4, h1, h2, h3, h6, ?_, h5⟩
  unfold rl
  rw [h6, if_pos h1]
  exact h3.symm
def taleP (h : Int64) (l : List (Nat × Int32)) : Int64 := l.foldl (fun h b => ((31 : Int64) * (((31 : Int64) * h) + (nI b.1).toInt64)) + b.2.toInt64) h
def taleS (h : Int64) (e : Nat × List Int32) : Int64 := ((31 : Int64) * (((31 : Int64) * (((31 : Int64) * (((31 : Int64) * (((31 : Int64) * h) + (nI e.1).toInt64)) + vSum e.2)) + (nI e.2.length).toInt64)) + (vFst e.2).toInt64)) + (vLst e.2).toInt64
def taleG (h : Int64) (l : List (Nat × List Int32)) : Int64 := l.foldl taleS h
def taleF (hz : Nat → Nat) (P : List (Nat × Int32)) : Int64 := taleG (taleG (taleG (taleP (nI (rws hz P 0)).toInt64 (hi kf (hz 0) P)) (gk (ln 1) (hz 1) P)) (gk (ln 2) (hz 2) P)) (gk (ln 3) (hz 3) P)
theorem drop_cons {α : Type} {l : List α} {j : Nat} {x : α} (h : l[j]? = some x) : l.drop j = x :: l.drop (j + 1) := by
  obtain ⟨g1, g2⟩ := List.getElem?_eq_some_iff.mp h
  rw [List.drop_eq_getElem_cons g1, g2]
section
variable {m : MM} {g : Nat → Nat} {o A R Z w su n ck : Nat} {sa kd rt hz : Nat → Nat} {Pl : Nat → List (Nat × Int32)} {Cs : Nat → Nat → Nat}
theorem Sto.h100' (h : Sto m g o A R Z w su n ck sa kd rt hz Pl Cs) {i : Nat} (hin : i < n) : (hi kf (hz 0) (Pl i)).length ≤ 100 := by
  obtain ⟨-, p, t, v, U, WW, T, B, s3, -⟩ := h.2.2.2.2.2 i hin
  exact s3.2.2.2.2.1.len
theorem Sto.rwsb (h : Sto m g o A R Z w su n ck sa kd rt hz Pl Cs) {i t : Nat} (hin : i < n) (ht : t ≤ 3) : rws hz (Pl i) t ≤ 16384 := by
  obtain ⟨-, p, t9, v, U, WW, T, B, s3, s4⟩ := h.2.2.2.2.2 i hin
  unfold rws
  by_cases j0 : t = 0
  · rw [if_pos j0]
    have := s3.2.2.2.2.1.len
    omega
  · rw [if_neg j0, ← s4 t (by omega) ht, List.length_map]
    have := (s3.2.2.2.2.2.1 t (by omega) ht).len
    omega
theorem rowT_g {hz : Nat → Nat} {P : List (Nat × Int32)} {t j : Nat} (h1 : 1 ≤ t) {e : Nat × List Int32} (he : (gk (ln t) (hz t) P)[j]? = some e) : (rowT hz P t)[j]? = some e.1 := by
  unfold rowT
  rw [if_neg (by omega), List.getElem?_map, he]
  rfl
theorem rowT_p {hz : Nat → Nat} {P : List (Nat × Int32)} {j : Nat} {b : Nat × Int32} (he : (hi kf (hz 0) P)[j]? = some b) : (rowT hz P 0)[j]? = some b.1 := by
  unfold rowT
  rw [if_pos rfl, List.getElem?_map, he]
  rfl
theorem tale73 (h : Sto m g o A R Z w su n ck sa kd rt hz Pl Cs) (hP : ∀ i, i < n → Srt kf (Pl i)) {i t : Nat} (hin : i < n) (h1 : 1 ≤ t) (h3 : t ≤ 3) (hP31 : ∀ c ∈ Pl i, c.1 < 2 ^ 31) {Q : Int64 → MM → Prop} {K : Nat → Int32 → Int64 → Int32 → MM → Prop} : ∀ (k j : Nat) (a : Int64), j + k = (gk (ln t) (hz t) (Pl i)).length → K o (nI i) (taleG a ((gk (ln t) (hz t) (Pl i)).drop j)) (nI (t + 1)) m → wp_L_tale_73 Q K (k + 1) o (nI i) a (nI t) (nI j) m := by
  have hb := h.rwsb hin h3
  have hr : rws hz (Pl i) t = (gk (ln t) (hz t) (Pl i)).length := by unfold rws; exact if_neg (by omega)
  intro k
  induction k with
  | zero =>
    intro j a hj hK
    unfold wp_L_tale_73
    refine ⟨h.1.1, q_rows h hin h3 ⟨fun _ => ?_, fun c => absurd (nI_le (by omega) (by omega)) c⟩⟩
    rw [List.drop_eq_nil_of_le (by omega)] at hK
    simp only [forall_eq, nI_1]
    exact hK
  | succ k ih =>
    intro j a hj hK
    unfold wp_L_tale_73
    refine ⟨h.1.1, q_rows h hin h3 ⟨fun c => absurd c (nI_ge (by omega) (by omega)), fun _ => ?_⟩⟩
    obtain ⟨e, he⟩ : ∃ e, (gk (ln t) (hz t) (Pl i))[j]? = some e := ⟨_, List.getElem?_eq_getElem (by omega)⟩
    obtain ⟨g1, g2, g3, g4, g5, g6, p, g7, g8⟩ := gk_e (hP i hin) (List.mem_of_getElem? he)
    have hx : e.1 < 2 ^ 31 := by
      have := bg_le (ln t) p.1
      have := hP31 p g7
      omega
    have hne : rl hz (Pl i) t e.1 ≠ [] := by rw [g6]; exact g3
    refine ⟨h.1.1, q_timeOf h hin h3 (by omega) (rowT_g h1 he) ⟨h.1.1, q_sum h hP hin h1 h3 hx hne ⟨h.1.1, q_count h hP hin h1 h3 hx hne ?_⟩⟩⟩
    rw [forall_eq]
    refine ⟨h.1.1, q_first h hP hin h1 h3 hx hne ⟨h.1.1, q_last h hP hin h1 h3 hx hne ?_⟩⟩
    rw [forall_eq, forall_eq, nI_1]
    refine ih (j + 1) _ (by omega) ?_
    rw [drop_cons he] at hK
    rw [g6]
    exact hK
theorem tale64 (h : Sto m g o A R Z w su n ck sa kd rt hz Pl Cs) (hP : ∀ i, i < n → Srt kf (Pl i)) {i : Nat} (hin : i < n) (hP31 : ∀ c ∈ Pl i, c.1 < 2 ^ 31) {Q : Int64 → MM → Prop} {a : Int64} (hq : Q (taleG (taleG (taleG a (gk (ln 1) (hz 1) (Pl i))) (gk (ln 2) (hz 2) (Pl i))) (gk (ln 3) (hz 3) (Pl i))) m) : ∃ n9, wp_L_tale_64 Q n9 o (nI i) a (nI 1) m := by
  have st : ∀ (nn t : Nat) (a : Int64), 1 ≤ t → t ≤ 3 → wp_L_tale_64 Q nn o (nI i) (taleG a (gk (ln t) (hz t) (Pl i))) (nI (t + 1)) m → wp_L_tale_64 Q (nn + 1) o (nI i) a (nI t) m := fun nn t a h1 h3 hK => by
    unfold wp_L_tale_64
    refine ⟨fun c => absurd c (nI_ge (a := t) (b := 4) (by omega) (by decide)), fun _ => ?_⟩
    rw [forall_eq]
    exact ⟨_, tale73 h hP hin h1 h3 hP31 _ 0 a (Nat.zero_add _) (by rw [List.drop_zero]; exact hK)⟩
  refine ⟨4, st 3 1 a (by decide) (by decide) (st 2 2 _ (by decide) (by decide) (st 1 3 _ (by decide) (by decide) ?_))⟩
  unfold wp_L_tale_64
  exact ⟨fun _ => hq, fun c => absurd (nI_le (a := 4) (b := 4) (by decide) (by decide)) c⟩
theorem tale11 (h : Sto m g o A R Z w su n ck sa kd rt hz Pl Cs) (hP : ∀ i, i < n → Srt kf (Pl i)) {i : Nat} (hin : i < n) (hP31 : ∀ c ∈ Pl i, c.1 < 2 ^ 31) {Q : Int64 → MM → Prop} : ∀ (k j : Nat) (a : Int64), j + k = (hi kf (hz 0) (Pl i)).length → Q (taleG (taleG (taleG (taleP a ((hi kf (hz 0) (Pl i)).drop j)) (gk (ln 1) (hz 1) (Pl i))) (gk (ln 2) (hz 2) (Pl i))) (gk (ln 3) (hz 3) (Pl i))) m → wp_L_tale_11 Q (k + 1) o (nI i) a (nI j) m := by
  have hb := h.h100' hin
  have hr : rws hz (Pl i) 0 = (hi kf (hz 0) (Pl i)).length := by unfold rws; exact if_pos rfl
  intro k
  induction k with
  | zero =>
    intro j a hj hq
    unfold wp_L_tale_11
    refine ⟨h.1.1, q_rows h hin (t := 0) (by decide) ⟨fun _ => ?_, fun c => absurd (nI_le (by omega) (by omega)) c⟩⟩
    rw [List.drop_eq_nil_of_le (by omega)] at hq
    rw [forall_eq]
    exact tale64 h hP hin hP31 hq
  | succ k ih =>
    intro j a hj hq
    unfold wp_L_tale_11
    refine ⟨h.1.1, q_rows h hin (t := 0) (by decide) ⟨fun c => absurd c (nI_ge (by omega) (by omega)), fun _ => ?_⟩⟩
    obtain ⟨b, hb9⟩ : ∃ b, (hi kf (hz 0) (Pl i))[j]? = some b := ⟨_, List.getElem?_eq_getElem (by omega)⟩
    have hbm := List.mem_of_getElem? hb9
    have hx := hP31 b (mem_hi.mp hbm).1
    refine ⟨h.1.1, q_timeOf h hin (t := 0) (by decide) (by omega) (rowT_p hb9) ⟨h.1.1, q_valueAt h hP hin hbm hx hP31 ?_⟩⟩
    rw [forall_eq, forall_eq, nI_1]
    refine ih (j + 1) _ (by omega) ?_
    rw [drop_cons hb9] at hq
    exact hq
theorem sp_L_tale (h : Sto m g o A R Z w su n ck sa kd rt hz Pl Cs) (hP : ∀ i, i < n → Srt kf (Pl i)) {i : Nat} (hin : i < n) (hP31 : ∀ c ∈ Pl i, c.1 < 2 ^ 31) {Q : Int64 → MM → Prop} (hq : Q (taleF hz (Pl i)) m) : wp_L_tale o (nI i) m Q := by
  unfold wp_L_tale
  refine ⟨h.1.1, q_rows h hin (t := 0) (by decide) ?_⟩
  rw [forall_eq, forall_eq]
  exact ⟨_, tale11 h hP hin hP31 _ 0 _ (Nat.zero_add _) (by rw [List.drop_zero]; exact hq)⟩
end
