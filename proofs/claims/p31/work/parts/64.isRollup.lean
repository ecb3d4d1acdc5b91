/-! A ROLLUP tells what the rollups of the next shorter tier in it tell together -/
abbrev GE : Type := Nat × List Int32
def inW (x L : Nat) (e : GE) : Bool := decide (x ≤ kg e) && decide (kg e < x + L)
def uW (x L : Nat) (G : List GE) (j : Nat) : List GE := (G.take j).filter (inW x L)
def vsW (U : List GE) : List Int32 := U.flatMap (·.2)
def fLow (U : List GE) : Int32 := if U = [] then 1000001 else vMin (vsW U)
def fHigh (U : List GE) : Int32 := if U = [] then -1000001 else vMax (vsW U)
def fBeg (U : List GE) : Int32 := match U with
  | [] => -1
  | e :: _ => nI e.1
def fEnd (U : List GE) : Int32 := match U.getLast? with
  | none => -1
  | some e => nI e.1
theorem uW_0 (x L : Nat) (G : List GE) : uW x L G 0 = [] := rfl
theorem uW_in {x L j : Nat} {G : List GE} {e : GE} (he : G[j]? = some e) (h : x ≤ e.1 ∧ e.1 < x + L) : uW x L G (j + 1) = uW x L G j ++ [e] := by
  unfold uW
  rw [List.take_succ, he, List.filter_append]
  congr 1
  exact List.filter_cons_of_pos (by unfold inW; rw [decide_eq_true h.1, decide_eq_true h.2]; rfl)
theorem uW_out {x L j : Nat} {G : List GE} {e : GE} (he : G[j]? = some e) (h : ¬ (x ≤ e.1 ∧ e.1 < x + L)) : uW x L G (j + 1) = uW x L G j := by
  unfold uW
  rw [List.take_succ, he, List.filter_append]
  have : List.filter (inW x L) (some e).toList = [] := by
    refine List.filter_cons_of_neg (fun z => h ?_)
    unfold inW at z
    rw [Bool.and_eq_true, decide_eq_true_iff, decide_eq_true_iff] at z
    exact z
  rw [this, List.append_nil]
theorem uW_all {x L : Nat} (G : List GE) : uW x L G G.length = hi kg x (lo kg (x + L) G) := by
  unfold uW hi lo
  rw [List.take_length, List.filter_filter]
  rfl
theorem vsW_app (U : List GE) (e : GE) : vsW (U ++ [e]) = vsW U ++ e.2 := by
  unfold vsW
  rw [List.flatMap_append]
  simp
theorem uW_sub {x L j : Nat} {G : List GE} {e : GE} (h : e ∈ uW x L G j) : e ∈ G := List.mem_of_mem_take (List.mem_filter.mp h).1
theorem vsW_ne {U : List GE} (h : U ≠ []) (hne : ∀ e ∈ U, e.2 ≠ []) : vsW U ≠ [] := by
  cases U with
  | nil => exact absurd rfl h
  | cons e U =>
    unfold vsW
    rw [List.flatMap_cons]
    intro z
    exact hne e List.mem_cons_self (List.append_eq_nil_iff.mp z).1
theorem fLow_app {U : List GE} {e : GE} (hU : ∀ e ∈ U, e.2 ≠ []) (he : e.2 ≠ []) (hw : okW e.2) : fLow (U ++ [e]) = if vMin e.2 < fLow U then vMin e.2 else fLow U := by
  have h0 : U ++ [e] ≠ [] := by simp
  unfold fLow
  rw [if_neg h0, vsW_app]
  by_cases q : U = []
  · rw [if_pos q, q]
    have := (w_int (hw _ (vMin_ok he).1)).2
    rw [if_pos (by rw [Int32.lt_iff_toInt_lt, show (1000001 : Int32).toInt = 1000001 by decide]; omega)]
    rfl
  · rw [if_neg q, vMin_app (vsW_ne q hU) he]
    rfl
theorem fHigh_app {U : List GE} {e : GE} (hU : ∀ e ∈ U, e.2 ≠ []) (he : e.2 ≠ []) (hw : okW e.2) : fHigh (U ++ [e]) = if fHigh U < vMax e.2 then vMax e.2 else fHigh U := by
  have h0 : U ++ [e] ≠ [] := by simp
  unfold fHigh
  rw [if_neg h0, vsW_app]
  by_cases q : U = []
  · rw [if_pos q, q]
    have := (w_int (hw _ (vMax_ok he).1)).1
    rw [if_pos (by rw [Int32.lt_iff_toInt_lt, show (-1000001 : Int32).toInt = -1000001 by decide]; omega)]
    rfl
  · rw [if_neg q, vMax_app (vsW_ne q hU) he]
    rfl
theorem fBeg_app {U : List GE} {e : GE} (hU : ∀ e ∈ U, e.1 < 2 ^ 31) : fBeg (U ++ [e]) = if 0 ≤ fBeg U then fBeg U else nI e.1 := by
  cases U with
  | nil => exact (if_neg (show ¬ (0 : Int32) ≤ -1 by decide)).symm
  | cons y U => exact (if_pos (nI_pos' (hU y List.mem_cons_self))).symm
theorem fEnd_app (U : List GE) (e : GE) : fEnd (U ++ [e]) = nI e.1 := by
  unfold fEnd
  rw [List.getLast?_append]
  rfl
theorem vFst_W {U : List GE} {e : GE} (he : e.2 ≠ []) : vFst (vsW (e :: U)) = vFst e.2 := by
  unfold vsW
  rw [List.flatMap_cons, vFst_app _ he]
theorem vLst_W {U : List GE} {e : GE} (he : e.2 ≠ []) : vLst (vsW (U ++ [e])) = vLst e.2 := by
  rw [vsW_app, vLst_app _ he]
section
variable {m : MM} {g : Nat → Nat} {o A R Z w su n ck : Nat} {sa kd rt hz : Nat → Nat} {Pl : Nat → List (Nat × Int32)} {Cs : Nat → Nat → Nat}
theorem Pk.gx (hK : Pk n ck kd Pl) {i t : Nat} (hin : i < n) {e : GE} (he : e ∈ gk (ln t) (hz t) (Pl i)) : e.1 ≤ ck ∧ e.1 < 2 ^ 29 ∧ okW e.2 ∧ e.2.length < 2 ^ 20 ∧ e.2 ≠ [] ∧ rl hz (Pl i) t e.1 = e.2 ∧ ln t ∣ e.1 ∧ hz t < e.1 + ln t := by
  obtain ⟨g1, g2, g3, g4, g5, g6, p, g7, g8⟩ := gk_e (hK.srt i hin) he
  obtain ⟨k1, k2, k3, k4⟩ := hK.2 i hin
  have h1 := bg_le (ln t) p.1
  have h2 := (k3 p g7).1
  have h3 := hK.1
  have h4 := vl_len (len := ln t) (b := e.1) (Pl i)
  refine ⟨by omega, by omega, fun v hv => ?_, by rw [g4]; omega, g3, g6, g1, g2⟩
  rw [g4] at hv
  unfold vl at hv
  obtain ⟨q, hq, rfl⟩ := List.mem_map.mp hv
  exact okV_w (k3 q (List.mem_filter.mp hq).1).2
theorem isR353 {Q : Int32 → MM → Prop} {K : Nat → Int32 → Int32 → Int32 → Int32 → Int64 → Int32 → Int32 → Int32 → Int32 → Int32 → Int64 → Int32 → Int32 → Int32 → Int32 → Int32 → MM → Prop} {q1 : Nat} {q2 q3 q4 q5 : Int32} {q6 : Int64} {q8 q9 q10 q11 q13 : Int32} {q14 : Int64} {q16 q18 q20 q21 s0 : Int32} (h : K q1 q2 q3 q4 q5 q6 q8 q9 q10 q11 q13 q14 q16 s0 (if 0 ≤ q18 then q18 else q21) q21 (q20 + 1) m) : wp_L_isRollup_353 Q K q1 q2 q3 q4 q5 q6 q8 q9 q10 q11 q13 q14 q16 q18 q20 q21 s0 m := by
  unfold wp_L_isRollup_353
  refine ⟨fun c => ?_, fun c => ?_⟩
  · rw [forall_eq]; rw [if_pos c] at h; exact h
  · rw [forall_eq]; rw [if_neg c] at h; exact h
theorem isR321 (h : Sto m g o A R Z w su n ck sa kd rt hz Pl Cs) (hK : Pk n ck kd Pl) {i t : Nat} (hin : i < n) (h1 : 1 ≤ t) (h3 : t ≤ 3) {e : GE} (he : e ∈ gk (ln t) (hz t) (Pl i)) {Q : Int32 → MM → Prop} {K : Nat → Int32 → Int32 → Int32 → Int32 → Int64 → Int32 → Int32 → Int32 → Int32 → Int32 → Int64 → Int32 → Int32 → Int32 → Int32 → Int32 → MM → Prop} {q4 q5 : Int32} {q6 : Int64} {q8 q9 q10 q11 q13 : Int32} {q14 : Int64} {q17 q18 q20 s0 : Int32} (hq : K o (nI i) (nI (t + 1)) q4 q5 q6 q8 q9 q10 q11 q13 q14 s0 (if q17 < vMax e.2 then vMax e.2 else q17) (if 0 ≤ q18 then q18 else nI e.1) (nI e.1) (q20 + 1) m) : wp_L_isRollup_321 Q K o (nI i) (nI (t + 1)) q4 q5 q6 q8 q9 q10 q11 q13 q14 q17 q18 q20 (nI e.1) s0 m := by
  obtain ⟨g1, g2, g3, g4, g5, g6, g7, g8⟩ := hK.gx hin he
  have hne : rl hz (Pl i) t e.1 ≠ [] := by rw [g6]; exact g5
  unfold wp_L_isRollup_321
  rw [nI_pred]
  refine ⟨h.1.1, q_greatest h hK.srt hin h1 h3 (by omega) hne ?_⟩
  rw [g6]
  refine ⟨fun c => isR353 ?_, fun c => ⟨h.1.1, q_greatest h hK.srt hin h1 h3 (by omega) hne ?_⟩⟩
  · rw [if_neg (Int32.not_lt.mpr c)] at hq; exact hq
  · rw [g6]
    refine isR353 ?_
    rw [if_pos (Int32.not_le.mp c)] at hq; exact hq
theorem isR217 (h : Sto m g o A R Z w su n ck sa kd rt hz Pl Cs) (hK : Pk n ck kd Pl) {i t x : Nat} (hin : i < n) (h1 : 1 ≤ t) (h2 : t ≤ 2) (hx : x < 2 ^ 30) {V : List Int32} (hV : V ≠ []) (hW : vsW (uW x (ln (t + 1)) (gk (ln t) (hz t) (Pl i)) (gk (ln t) (hz t) (Pl i)).length) = V) {Q : Int32 → MM → Prop} (hq : Q 1 m) : ∀ (k j : Nat), j + k = (gk (ln t) (hz t) (Pl i)).length → wp_L_isRollup_217 Q (k + 1) o (nI i) (nI (t + 1)) (nI x) (nI V.length) (vSum V) (vMin V) (vMax V) (vFst V) (vLst V) (nI (vsW (uW x (ln (t + 1)) (gk (ln t) (hz t) (Pl i)) j)).length) (vSum (vsW (uW x (ln (t + 1)) (gk (ln t) (hz t) (Pl i)) j))) (fLow (uW x (ln (t + 1)) (gk (ln t) (hz t) (Pl i)) j)) (fHigh (uW x (ln (t + 1)) (gk (ln t) (hz t) (Pl i)) j)) (fBeg (uW x (ln (t + 1)) (gk (ln t) (hz t) (Pl i)) j)) (fEnd (uW x (ln (t + 1)) (gk (ln t) (hz t) (Pl i)) j)) (nI j) m := by
  have h3 : t ≤ 3 := by omega
  have hb := h.rwsb hin h3
  have hr : rws hz (Pl i) t = (gk (ln t) (hz t) (Pl i)).length := by unfold rws; exact if_neg (by omega)
  have hl := ln_le (t + 1)
  have hll : ll (t + 1) = ln (t + 1) := ll_ln (by omega)
  intro k
  induction k with
  | zero =>
    intro j hj
    have ej : j = (gk (ln t) (hz t) (Pl i)).length := by omega
    unfold wp_L_isRollup_217
    rw [nI_pred]
    refine ⟨h.1.1, q_rows h hin h3 ⟨fun _ => ?_, fun c => absurd (nI_le (by omega) (by omega)) c⟩⟩
    rw [ej]
    generalize hU : uW x (ln (t + 1)) (gk (ln t) (hz t) (Pl i)) (gk (ln t) (hz t) (Pl i)).length = U at hW
    have hUm : ∀ e ∈ U, e ∈ gk (ln t) (hz t) (Pl i) := fun e he => by rw [← hU] at he; exact uW_sub he
    have hU0 : U ≠ [] := fun z => hV (by rw [← hW, z]; rfl)
    rw [hW]
    refine ⟨fun c => absurd rfl c, fun _ => ⟨fun c => absurd ((lg_cmp_eq _ _).mpr rfl) c, fun _ => ⟨fun c => absurd ?_ c, fun _ => ⟨fun c => absurd ?_ c, fun _ => ?_⟩⟩⟩⟩
    · unfold fLow
      rw [if_neg hU0, hW]
    · unfold fHigh
      rw [if_neg hU0, hW]
    · obtain ⟨e0, U', eU⟩ := List.exists_cons_of_ne_nil hU0
      obtain ⟨U2, e9, eU2⟩ : ∃ U2 e9, U = U2 ++ [e9] := ⟨U.dropLast, U.getLast hU0, (List.dropLast_concat_getLast hU0).symm⟩
      have m0 := hUm e0 (by rw [eU]; exact List.mem_cons_self)
      have m9 := hUm e9 (by rw [eU2]; exact List.mem_append_right _ List.mem_cons_self)
      obtain ⟨g1, g2, g3, g4, g5, g6, g7, g8⟩ := hK.gx hin m0
      obtain ⟨k1, k2, k3, k4, k5, k6, k7, k8⟩ := hK.gx hin m9
      rw [show fBeg U = nI e0.1 by rw [eU]; rfl, show fEnd U = nI e9.1 by rw [eU2]; exact fEnd_app U2 e9]
      refine ⟨h.1.1, q_first h hK.srt hin h1 h3 (by omega) (by rw [g6]; exact g5) ⟨fun c => absurd ?_ c, fun _ => ⟨h.1.1, q_last h hK.srt hin h1 h3 (by omega) (by rw [k6]; exact k5) ⟨fun c => absurd ?_ c, fun _ => hq⟩⟩⟩⟩
      · rw [g6, ← hW, eU, vFst_W g5]
      · rw [k6, ← hW, eU2, vLst_W k5]
  | succ k ih =>
    intro j hj
    obtain ⟨e, he⟩ : ∃ e, (gk (ln t) (hz t) (Pl i))[j]? = some e := ⟨_, List.getElem?_eq_getElem (by omega)⟩
    have hem := List.mem_of_getElem? he
    obtain ⟨g1, g2, g3, g4, g5, g6, g7, g8⟩ := hK.gx hin hem
    have hne : rl hz (Pl i) t e.1 ≠ [] := by rw [g6]; exact g5
    have nx := ih (j + 1) (by omega)
    unfold wp_L_isRollup_217
    rw [nI_pred]
    refine ⟨h.1.1, q_rows h hin h3 ⟨fun c => absurd c (nI_ge (by omega) (by omega)), fun _ => ⟨h.1.1, q_timeOf h hin h3 (by omega) (rowT_g h1 he) ?_⟩⟩⟩
    refine ⟨fun c => ?_, fun c => ?_⟩
    · have c2 := (nI_ltI (by omega) (by omega)).mp c
      rw [uW_out he (fun z => by omega)] at nx
      rw [forall_eq, nI_1]
      exact nx
    · have c2 : x ≤ e.1 := by
        rcases Nat.lt_or_ge e.1 x with q | q
        · exact absurd (nI_lt q (by omega)) c
        · exact q
      refine sp_L_length (t := t + 1) (by omega) ?_
      rw [hll, nI_add]
      refine ⟨fun c3 => ?_, fun c3 => ?_⟩
      · have c4 := (nI_leI (by omega) (by omega)).mp c3
        rw [uW_out he (fun z => by omega)] at nx
        rw [forall_eq, nI_1]
        exact nx
      · have c4 : e.1 < x + ln (t + 1) := by
          rcases Nat.lt_or_ge e.1 (x + ln (t + 1)) with q | q
          · exact q
          · exact absurd (nI_le q (by omega)) c3
        rw [uW_in he ⟨c2, c4⟩] at nx
        generalize hU : uW x (ln (t + 1)) (gk (ln t) (hz t) (Pl i)) j = U at nx ⊢
        have hUm : ∀ e ∈ U, e ∈ gk (ln t) (hz t) (Pl i) := fun e he => by rw [← hU] at he; exact uW_sub he
        have hUn : ∀ e ∈ U, e.2 ≠ [] := fun e he => (hK.gx hin (hUm e he)).2.2.2.2.1
        rw [vsW_app, List.length_append, vSum_app, fLow_app hUn g5 g3, fHigh_app hUn g5 g3, fBeg_app (fun e he => by have := (hK.gx hin (hUm e he)).2.1; omega), fEnd_app, ← nI_1 j] at nx
        refine ⟨h.1.1, q_count h hK.srt hin h1 h3 (by omega) hne ?_⟩
        rw [g6, forall_eq, nI_add]
        refine ⟨h.1.1, q_sum h hK.srt hin h1 h3 (by omega) hne ?_⟩
        rw [g6, forall_eq]
        refine ⟨h.1.1, q_least h hK.srt hin h1 h3 (by omega) hne ?_⟩
        rw [g6]
        refine ⟨fun c5 => isR321 h hK hin h1 h3 hem ?_, fun c5 => ⟨h.1.1, q_least h hK.srt hin h1 h3 (by omega) hne ?_⟩⟩
        · rw [if_neg (Int32.not_lt.mpr c5)] at nx
          exact nx
        · rw [g6]
          refine isR321 h hK hin h1 h3 hem ?_
          rw [if_pos (Int32.not_le.mp c5)] at nx
          exact nx
theorem sp_L_isRollup (h : Sto m g o A R Z w su n ck sa kd rt hz Pl Cs) (hK : Pk n ck kd Pl) (hzb : ∀ i, i ≤ 3 → hz i < 2 ^ 31) {z : Nat} (hR : Row m z kd rt hz) {i t : Nat} (hin : i < n) (h1 : 1 ≤ t) (h3 : t ≤ 3) {e : GE} (he : e ∈ gk (ln t) (hz t) (Pl i)) {Q : Int32 → MM → Prop} (hq : Q 1 m) : wp_L_isRollup o z (nI i) (nI t) (nI e.1) m Q := by
  obtain ⟨g1, g2, g3, g4, g5, g6, g7, g8⟩ := hK.gx hin he
  have hne : rl hz (Pl i) t e.1 ≠ [] := by rw [g6]; exact g5
  obtain ⟨v1, v2, v3, v4, v5, v6, v7, v8⟩ := vals_fit g5 g3 (by omega)
  have hev : e.2 = vl (ln t) e.1 (Pl i) := (gk_e (hK.srt i hin) he).2.2.2.1
  have K166 : wp_L_isRollup_166 Q o z (nI i) (nI t) (nI e.1) (nI e.2.length) (vSum e.2) (vMin e.2) (vMax e.2) (vFst e.2) (vLst e.2) 1 m := by
    unfold wp_L_isRollup_166
    refine ⟨fun _ => ⟨Or.inr rfl, hq⟩, fun c => ?_⟩
    have t1 : t ≠ 1 := fun z => c (by rw [z]; rfl)
    obtain ⟨t0, rfl⟩ : ∃ t0, t = t0 + 1 := ⟨t - 1, by omega⟩
    rw [nI_pred, nI_l (by omega)]
    refine sp_L_isGone hR (t := t0) (by omega) (by omega) (hzb t0 (by omega)) (fun _ => ⟨fun _ => ⟨Or.inr rfl, hq⟩, fun c => absurd c (by decide)⟩) (fun c2 => ⟨fun c => absurd rfl c, fun _ => ⟨fun _ => ?_, fun c => absurd c (by decide)⟩⟩)
    rw [ll_ln (by omega)] at c2
    rw [forall_eq, forall_eq, forall_eq, forall_eq, forall_eq, forall_eq, forall_eq]
    refine ⟨_, isR217 h hK hin (t := t0) (by omega) (by omega) (by omega) g5 ?_ hq _ 0 (Nat.zero_add _)⟩
    rw [uW_all]
    have hd : ln t0 ∣ ln (t0 + 1) := ln_dvd (i := t0 + 1) (by omega) h3 (by omega)
    have d1 : ln t0 ∣ e.1 := Nat.dvd_trans hd g7
    have e1 : vw hz (Pl i) t0 e.1 (e.1 + ln (t0 + 1)) = (seg e.1 (e.1 + ln (t0 + 1)) (Pl i)).map (·.2) := vw_seg d1 (Nat.dvd_add d1 hd) (fun _ => c2)
    have e2 := vals_pts (len := ln (t0 + 1)) (b := e.1) (h := 0) (P := Pl i) (ln_pos _) g7 (Nat.zero_le _)
    rw [hi_all (x := 0) (fun _ _ => Nat.zero_le _)] at e2
    exact e1.trans (e2.trans hev.symm)
  have K142 : wp_L_isRollup_142 Q o z (nI i) (nI t) (nI e.1) (nI e.2.length) (vSum e.2) (vMin e.2) (vMax e.2) (vFst e.2) (vLst e.2) m := by
    have hen := avg_enc g5 (show e.2.length < 2 ^ 26 by omega)
    unfold wp_L_isRollup_142
    refine ⟨h.1.1, q_average h (fun i hi => ⟨hK.srt i hi, by have := (hK.2 i hi).2.1; omega⟩) hin h1 h3 (by omega) hne ?_⟩
    rw [g6]
    refine ⟨hen.vf, fun c => absurd ?_ c, fun _ => K166⟩
    have e9 : FP.dcmp (avg e.2) (FP.ddiv (FP.l2d (vSum e.2)) (FP.i2d (nI e.2.length))) = some .eq := hen.eq
    rw [e9]
    rfl
  unfold wp_L_isRollup
  refine ⟨h.1.1, q_count h hK.srt hin h1 h3 (by omega) hne ?_⟩
  rw [g6]
  refine ⟨h.1.1, q_sum h hK.srt hin h1 h3 (by omega) hne ?_⟩
  rw [g6]
  refine ⟨h.1.1, q_least h hK.srt hin h1 h3 (by omega) hne ?_⟩
  rw [g6]
  refine ⟨h.1.1, q_greatest h hK.srt hin h1 h3 (by omega) hne ?_⟩
  rw [g6]
  refine ⟨h.1.1, q_first h hK.srt hin h1 h3 (by omega) hne ?_⟩
  rw [g6]
  refine ⟨h.1.1, q_last h hK.srt hin h1 h3 (by omega) hne ?_⟩
  rw [g6]
  refine ⟨fun c => absurd c v1, fun _ => ⟨fun c => absurd c v2, fun _ => ⟨fun c => absurd c v3, fun _ => ⟨fun c => absurd c v4, fun _ => ⟨fun c => absurd c v5, fun _ => ⟨fun c => absurd c v6, fun _ => ⟨fun c => absurd c v7, fun _ => ⟨fun _ => K142, fun c => ?_⟩⟩⟩⟩⟩⟩⟩⟩
  obtain ⟨w1, w2⟩ := v8 c
  exact ⟨fun c => absurd w1 c, fun _ => ⟨fun c => absurd w2 c, fun _ => K142⟩⟩
end
