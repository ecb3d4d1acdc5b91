/-! VALUES: least, greatest, first, last and sum fit together -/
def okW (V : List Int32) : Prop := ∀ v ∈ V, (-1000000 : Int32) ≤ v ∧ v ≤ (1000000 : Int32)
theorem okV_w {k : Nat} {v : Int32} (h : okV k v) : (-1000000 : Int32) ≤ v ∧ v ≤ (1000000 : Int32) := by
  refine ⟨Int32.le_trans ?_ h.1, h.2⟩
  split <;> decide
theorem w_int {v : Int32} (h : (-1000000 : Int32) ≤ v ∧ v ≤ (1000000 : Int32)) : -1000000 ≤ v.toInt ∧ v.toInt ≤ 1000000 := by
  obtain ⟨h1, h2⟩ := h
  rw [Int32.le_iff_toInt_le] at h1 h2
  rw [show (-1000000 : Int32).toInt = -1000000 by decide] at h1
  rw [show (1000000 : Int32).toInt = 1000000 by decide] at h2
  exact ⟨h1, h2⟩
theorem i64_add {a b : Int64} (h1 : -9223372036854775808 ≤ a.toInt + b.toInt) (h2 : a.toInt + b.toInt < 9223372036854775808) : (a + b).toInt = a.toInt + b.toInt := by
  rw [Int64.toInt_add]
  exact Int.bmod_eq_of_le (by omega) (by omega)
theorem i64_mul {a b : Int64} (h1 : -9223372036854775808 ≤ a.toInt * b.toInt) (h2 : a.toInt * b.toInt < 9223372036854775808) : (a * b).toInt = a.toInt * b.toInt := by
  rw [Int64.toInt_mul]
  exact Int.bmod_eq_of_le (by omega) (by omega)
theorem vSum_cons (v : Int32) (l : List Int32) : vSum (v :: l) = v.toInt64 + vSum l := by
  have h := vSum_app [v] l
  rw [show vSum [v] = 0 + v.toInt64 from rfl, Int64.zero_add] at h
  exact h
def vZ : List Int32 → Int
  | [] => 0
  | v :: l => v.toInt + vZ l
theorem vZ_ge {lw : Int} : ∀ {V : List Int32}, (∀ v ∈ V, lw ≤ v.toInt) → lw * (V.length : Int) ≤ vZ V
  | [], _ => by simp [vZ]
  | v :: l, h => by
    have h1 := vZ_ge (V := l) fun w hw => h w (List.mem_cons_of_mem _ hw)
    have h2 := h v List.mem_cons_self
    have e : (((v :: l).length : Nat) : Int) = (l.length : Int) + 1 := rfl
    rw [e, Int.mul_add, Int.mul_one]
    show _ ≤ v.toInt + vZ l
    omega
theorem vZ_le {hw : Int} : ∀ {V : List Int32}, (∀ v ∈ V, v.toInt ≤ hw) → vZ V ≤ hw * (V.length : Int)
  | [], _ => by simp [vZ]
  | v :: l, h => by
    have h1 := vZ_le (V := l) fun w hw => h w (List.mem_cons_of_mem _ hw)
    have h2 := h v List.mem_cons_self
    have e : (((v :: l).length : Nat) : Int) = (l.length : Int) + 1 := rfl
    rw [e, Int.mul_add, Int.mul_one]
    show v.toInt + vZ l ≤ _
    omega
theorem vSum_Z : ∀ {V : List Int32}, okW V → V.length < 2 ^ 30 → (vSum V).toInt = vZ V
  | [], _, _ => rfl
  | v :: l, h, hl => by
    have hl2 : l.length < 2 ^ 30 := by
      rw [List.length_cons] at hl
      omega
    have h0 := fun w hw => w_int (h w (List.mem_cons_of_mem v hw))
    have h1 := vSum_Z (V := l) (fun w hw => h w (List.mem_cons_of_mem _ hw)) hl2
    have h2 := w_int (h v List.mem_cons_self)
    have h3 := vZ_ge fun w hw => (h0 w hw).1
    have h4 := vZ_le fun w hw => (h0 w hw).2
    have e : v.toInt64.toInt = v.toInt := Int32.toInt_toInt64 v
    rw [vSum_cons, i64_add (by rw [h1, e]; omega) (by rw [h1, e]; omega), h1, e]
    rfl
theorem foldl_mn (l : List Int32) : ∀ a : Int32, (l.foldl mn a).toInt ≤ a.toInt ∧ (∀ v ∈ l, (l.foldl mn a).toInt ≤ v.toInt) ∧ (l.foldl mn a = a ∨ l.foldl mn a ∈ l) := by
  induction l with
  | nil => intro a; exact ⟨Int.le_refl _, fun v hv => absurd hv List.not_mem_nil, Or.inl rfl⟩
  | cons b l ih =>
    intro a
    obtain ⟨h1, h2, h3⟩ := ih (mn a b)
    have h4 : (mn a b).toInt ≤ a.toInt ∧ (mn a b).toInt ≤ b.toInt ∧ (mn a b = a ∨ mn a b = b) := by
      unfold mn
      by_cases q : b < a
      · rw [if_pos q]
        rw [Int32.lt_iff_toInt_lt] at q
        exact ⟨by omega, Int.le_refl _, Or.inr rfl⟩
      · rw [if_neg q]
        rw [Int32.lt_iff_toInt_lt] at q
        exact ⟨Int.le_refl _, by omega, Or.inl rfl⟩
    rw [List.foldl_cons]
    refine ⟨by omega, fun v hv => ?_, ?_⟩
    · rcases List.mem_cons.mp hv with e | e
      · rw [e]; omega
      · exact h2 v e
    · rcases h3 with e | e
      · rcases h4.2.2 with e2 | e2
        · exact Or.inl (e.trans e2)
        · exact Or.inr (by rw [e, e2]; exact List.mem_cons_self)
      · exact Or.inr (List.mem_cons_of_mem _ e)
theorem foldl_mx (l : List Int32) : ∀ a : Int32, a.toInt ≤ (l.foldl mx a).toInt ∧ (∀ v ∈ l, v.toInt ≤ (l.foldl mx a).toInt) ∧ (l.foldl mx a = a ∨ l.foldl mx a ∈ l) := by
  induction l with
  | nil => intro a; exact ⟨Int.le_refl _, fun v hv => absurd hv List.not_mem_nil, Or.inl rfl⟩
  | cons b l ih =>
    intro a
    obtain ⟨h1, h2, h3⟩ := ih (mx a b)
    have h4 : a.toInt ≤ (mx a b).toInt ∧ b.toInt ≤ (mx a b).toInt ∧ (mx a b = a ∨ mx a b = b) := by
      unfold mx
      by_cases q : a < b
      · rw [if_pos q]
        rw [Int32.lt_iff_toInt_lt] at q
        exact ⟨by omega, Int.le_refl _, Or.inr rfl⟩
      · rw [if_neg q]
        rw [Int32.lt_iff_toInt_lt] at q
        exact ⟨Int.le_refl _, by omega, Or.inl rfl⟩
    rw [List.foldl_cons]
    refine ⟨by omega, fun v hv => ?_, ?_⟩
    · rcases List.mem_cons.mp hv with e | e
      · rw [e]; omega
      · exact h2 v e
    · rcases h3 with e | e
      · rcases h4.2.2 with e2 | e2
        · exact Or.inl (e.trans e2)
        · exact Or.inr (by rw [e, e2]; exact List.mem_cons_self)
      · exact Or.inr (List.mem_cons_of_mem _ e)
theorem vMin_ok {V : List Int32} (h : V ≠ []) : vMin V ∈ V ∧ ∀ v ∈ V, (vMin V).toInt ≤ v.toInt := by
  cases V with
  | nil => exact absurd rfl h
  | cons a l =>
    obtain ⟨h1, h2, h3⟩ := foldl_mn l a
    refine ⟨?_, fun v hv => ?_⟩
    · show l.foldl mn a ∈ a :: l
      rcases h3 with e | e
      · rw [e]; exact List.mem_cons_self
      · exact List.mem_cons_of_mem _ e
    · show (l.foldl mn a).toInt ≤ v.toInt
      rcases List.mem_cons.mp hv with e | e
      · rw [e]; exact h1
      · exact h2 v e
theorem vMax_ok {V : List Int32} (h : V ≠ []) : vMax V ∈ V ∧ ∀ v ∈ V, v.toInt ≤ (vMax V).toInt := by
  cases V with
  | nil => exact absurd rfl h
  | cons a l =>
    obtain ⟨h1, h2, h3⟩ := foldl_mx l a
    refine ⟨?_, fun v hv => ?_⟩
    · show l.foldl mx a ∈ a :: l
      rcases h3 with e | e
      · rw [e]; exact List.mem_cons_self
      · exact List.mem_cons_of_mem _ e
    · show v.toInt ≤ (l.foldl mx a).toInt
      rcases List.mem_cons.mp hv with e | e
      · rw [e]; exact h1
      · exact h2 v e
theorem vFst_mem {V : List Int32} (h : V ≠ []) : vFst V ∈ V := by
  cases V with
  | nil => exact absurd rfl h
  | cons a l => exact List.mem_cons_self
theorem vLst_mem {V : List Int32} (h : V ≠ []) : vLst V ∈ V := by
  unfold vLst
  rw [List.getLastD_eq_getLast?, List.getLast?_eq_some_getLast h]
  exact List.getLast_mem h
theorem n_lt_of {a b : Int32} (h : a.toInt ≤ b.toInt) : ¬ b < a := fun z => by
  rw [Int32.lt_iff_toInt_lt] at z
  omega
/-- what isRollup holds of one rollup's values -/
theorem vals_fit {V : List Int32} (h : V ≠ []) (hok : okW V) (hl : V.length < 2 ^ 26) : ¬ nI V.length < (1 : Int32) ∧ ¬ vFst V < vMin V ∧ ¬ vMax V < vFst V ∧ ¬ vLst V < vMin V ∧ ¬ vMax V < vLst V ∧ ¬ 0 < lg_cmp ((nI V.length).toInt64 * (vMin V).toInt64) (vSum V) ∧ ¬ 0 < lg_cmp (vSum V) ((nI V.length).toInt64 * (vMax V).toInt64) ∧ (¬ (1 : Int32) < nI V.length → vFst V = vLst V ∧ lg_cmp (vSum V) (vFst V).toInt64 = 0) := by
  have hp := List.length_pos_iff.mpr h
  obtain ⟨m1, m2⟩ := vMin_ok h
  obtain ⟨x1, x2⟩ := vMax_ok h
  have hm := w_int (hok _ m1)
  have hx := w_int (hok _ x1)
  have hs := vSum_Z hok (by omega)
  have en : (nI V.length).toInt64.toInt = (V.length : Int) := by
    rw [Int32.toInt_toInt64]
    exact nI_toInt (by omega)
  have em : (vMin V).toInt64.toInt = (vMin V).toInt := Int32.toInt_toInt64 _
  have ex : (vMax V).toInt64.toInt = (vMax V).toInt := Int32.toInt_toInt64 _
  have bd : ∀ w : Int, -1000000 ≤ w → w ≤ 1000000 → -67108864000000 ≤ (V.length : Int) * w ∧ (V.length : Int) * w ≤ 67108864000000 := fun w h1 h2 => by
    have g1 : (V.length : Int) * (-1000000) ≤ (V.length : Int) * w := Int.mul_le_mul_of_nonneg_left h1 (by omega)
    have g2 : (V.length : Int) * w ≤ (V.length : Int) * 1000000 := Int.mul_le_mul_of_nonneg_left h2 (by omega)
    omega
  have bm := bd _ hm.1 hm.2
  have bx := bd _ hx.1 hx.2
  have pm : ((nI V.length).toInt64 * (vMin V).toInt64).toInt = (V.length : Int) * (vMin V).toInt := by
    rw [i64_mul (by rw [en, em]; omega) (by rw [en, em]; omega), en, em]
  have px : ((nI V.length).toInt64 * (vMax V).toInt64).toInt = (V.length : Int) * (vMax V).toInt := by
    rw [i64_mul (by rw [en, ex]; omega) (by rw [en, ex]; omega), en, ex]
  have z1 := vZ_ge (V := V) m2
  have z2 := vZ_le (V := V) x2
  rw [Int.mul_comm] at z1 z2
  refine ⟨fun z => ?_, n_lt_of (m2 _ (vFst_mem h)), n_lt_of (x2 _ (vFst_mem h)), n_lt_of (m2 _ (vLst_mem h)), n_lt_of (x2 _ (vLst_mem h)), fun z => ?_, fun z => ?_, fun z => ?_⟩
  · have := (nI_ltI (a := V.length) (b := 1) (by omega) (by decide)).mp z
    omega
  · rw [lg_cmp_gt, Int64.lt_iff_toInt_lt, pm, hs] at z
    omega
  · rw [lg_cmp_gt, Int64.lt_iff_toInt_lt, px, hs] at z
    omega
  · have h1 : ¬ 1 < V.length := fun y => z (nI_lt (a := 1) y (by omega))
    obtain ⟨v, rfl⟩ := List.length_eq_one_iff.mp (show V.length = 1 by omega)
    refine ⟨rfl, ?_⟩
    rw [lg_cmp_eq]
    show 0 + v.toInt64 = v.toInt64
    exact Int64.zero_add _
