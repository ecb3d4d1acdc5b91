/-! areGaps -/
section
variable {m : MM} {g : Nat → Nat} {o A R Z w su n ck z : Nat} {sa kd rt hz : Nat → Nat} {Pl : Nat → List (Nat × Int32)} {Cs : Nat → Nat → Nat}
theorem q_gaps (h : Sto m g o A R Z w su n ck sa kd rt hz Pl Cs) (hzb : ∀ i, i ≤ 3 → hz i < 2 ^ 31) {i t f e : Nat} (hin : i < n) (h1 : 1 ≤ t) (h3 : t ≤ 3) (hf : ln t ∣ f) (he : ln t ∣ e) (hfe : f ≤ e) (e31 : e < 2 ^ 31) {Q : Int32 → MM → Prop} {X : Nat → MM → Prop} (hQ : Q (gapsN hz (Pl i) t f e) m) : wp_X5_gaps o (nI i) (nI t) (nI f) (nI e) m Q X := by
  have hn := h.n4
  refine sp_X5_gaps h hzb (fun y => (ser_no hn hin y).elim) (fun y => ?_) (fun i' t' x' ha y => ?_) (fun i' t' x' f' e' ha e1 e2 f31 e31' _ _ _ => ?_)
  · have y : NoAsk n (nI i) (nI t) (nI 0) := y
    exact (NoAsk.no hn hin h1 h3 (by decide) y).elim
  · have ha : Ask n (nI i) (nI t) (nI 0) i' t' x' := ha
    obtain ⟨rfl, rfl, rfl⟩ := ha.is hn hin h3 (by decide)
    exact absurd ⟨f, e, rfl, rfl, by omega, e31, hfe, hf, he⟩ y
  · have ha : Ask n (nI i) (nI t) (nI 0) i' t' x' := ha
    obtain ⟨rfl, rfl, rfl⟩ := ha.is hn hin h3 (by decide)
    rw [← (nI_eq (by omega) f31).mp e1, ← (nI_eq e31 e31').mp e2]
    exact hQ
theorem take_1 {l : List GE} {j : Nat} {y : GE} (h : l[j]? = some y) : l.take (j + 1) = l.take j ++ [y] := by
  rw [List.take_succ, h]
  rfl
theorem lo_1 {f : Nat} (l : List GE) (y : GE) : lo kg f (l ++ [y]) = if y.1 < f then lo kg f l ++ [y] else lo kg f l := by
  rw [lo_app]
  by_cases q : y.1 < f
  · rw [if_pos q, lo_all (l := [y]) (fun a ha => by rw [List.mem_singleton.mp ha]; exact q)]
  · rw [if_neg q, lo_none (l := [y]) (fun a ha => by rw [List.mem_singleton.mp ha]; exact Nat.not_lt.mp q), List.append_nil]
theorem hi_1 {f : Nat} (l : List GE) (y : GE) : hi kg (f + 1) (l ++ [y]) = if f < y.1 then hi kg (f + 1) l ++ [y] else hi kg (f + 1) l := by
  rw [hi_app]
  by_cases q : f < y.1
  · rw [if_pos q, hi_all (l := [y]) (fun a ha => by rw [List.mem_singleton.mp ha]; exact q)]
  · rw [if_neg q, hi_none (l := [y]) (fun a ha => by rw [List.mem_singleton.mp ha]; show y.1 < f + 1; omega), List.append_nil]
theorem ag140 {G : List GE} {j f : Nat} {y : GE} (hy : G[j]? = some y) (hG : ∀ e ∈ G, e.1 < 2 ^ 31) (f31 : f < 2 ^ 31) {Q : Int32 → MM → Prop} {K : Nat → Int32 → Int32 → Int32 → Int32 → Int32 → Int32 → Int32 → Int32 → Int32 → Int32 → MM → Prop} {q0 : Nat} {q2 q3 q4 q5 q7 q8 s0 : Int32} (hK : K q0 q2 q3 q4 q5 (nI f) q7 q8 s0 (fBeg (hi kg (f + 1) (G.take (j + 1)))) (nI (j + 1)) m) : wp_L_areGaps_140 Q K q0 q2 q3 q4 q5 (nI f) q7 q8 (fBeg (hi kg (f + 1) (G.take j))) (nI j) (nI y.1) s0 m := by
  have hy31 := hG y (List.mem_of_getElem? hy)
  have hm : ∀ e ∈ hi kg (f + 1) (G.take j), e.1 < 2 ^ 31 := fun e he => hG e (List.mem_of_mem_take (mem_hi.mp he).1)
  rw [take_1 hy, hi_1] at hK
  unfold wp_L_areGaps_140
  refine ⟨fun c => ?_, fun c => ?_⟩
  · have c2 := (nI_leI hy31 f31).mp c
    rw [if_neg (by omega)] at hK
    rw [forall_eq, nI_1]
    exact hK
  · have c2 : f < y.1 := by
      rcases Nat.lt_or_ge f y.1 with q | q
      · exact q
      · exact absurd (nI_le q f31) c
    rw [if_pos c2, fBeg_app hm] at hK
    refine ⟨fun d => ?_, fun d => ?_⟩
    · rw [if_pos d] at hK
      rw [forall_eq, nI_1]
      exact hK
    · rw [if_neg d] at hK
      rw [forall_eq, nI_1]
      exact hK
theorem ag336 {Q : Int32 → MM → Prop} (hq : Q 1 m) {v : Int32} (e : v = -2000000) : wp_L_areGaps_336 Q 1 v m := by
  unfold wp_L_areGaps_336
  exact ⟨fun c => absurd c (by decide), fun _ => ⟨fun c => absurd e c, fun _ => hq⟩⟩
theorem ag395 {Q : Int32 → MM → Prop} (hq : Q 1 m) {v a b s : Int32} (h1 : ¬ v < s) (h2 : b ≤ a → ¬ a < v) (h3 : ¬ b ≤ a → ¬ b < v) : wp_L_areGaps_395 Q v a b s v m := by
  unfold wp_L_areGaps_395
  exact ⟨fun c => absurd c h1, fun _ => ⟨fun c => ⟨fun d => absurd d (h2 c), fun _ => hq⟩, fun c => ⟨fun d => absurd d (h3 c), fun _ => hq⟩⟩⟩
theorem ag189 (h : Sto m g o A R Z w su n ck sa kd rt hz Pl Cs) (hK : Pk n ck kd Pl) {i t f x : Nat} (hin : i < n) (h1 : 1 ≤ t) (h3 : t ≤ 3) (hf : ln t ∣ f) (f30 : f < 2 ^ 30) (hx : x < 2 ^ 30) {Q : Int32 → MM → Prop} (hq : Q 1 m) : wp_L_areGaps_189 Q o (nI i) (nI t) (nI x) (nI (ln t)) (nI f) (fEnd (lo kg f (gk (ln t) (hz t) (Pl i)))) (fBeg (hi kg (f + 1) (gk (ln t) (hz t) (Pl i)))) 1 m := by
  have hp := ln_pos t
  have hl := ln_le t
  have hmod : x % ln t < ln t := Nat.mod_lt _ hp
  have hbf : bg (ln t) f = f := bg_self hp hf
  have hbx : bg (ln t) (f + x % ln t) = f := (bg_iff hp hf _).mpr ⟨by omega, by omega⟩
  have hrx : rl hz (Pl i) t (f + x % ln t) = rl hz (Pl i) t f := by
    unfold rl
    rw [hbx, hbf]
  have e1 : nI x - nI x / nI (ln t) * nI (ln t) = nI (x % ln t) := pk_rem (by omega) hp (by omega)
  unfold wp_L_areGaps_189
  rw [e1, nI_add]
  refine ⟨nI_ne0 hp (by omega), sp_L_filled h hK.srt hin h1 h3 (r := 2) (by omega) (by decide) (sp_L_filled h hK.srt hin h1 h3 (r := 1) (by omega) (by decide) ⟨h.1.1, q_hasRollup h hK.srt hin h1 h3 (by omega) (fun hr => ⟨fun c => absurd c (by decide), fun _ => ⟨h.1.1, q_last h hK.srt hin h1 h3 (by omega) hr ⟨fun c => absurd c (by decide), fun _ => ⟨fun c => absurd ?_ c, fun _ => ⟨fun c => absurd ?_ c, fun _ => sp_L_filled h hK.srt hin h1 h3 (r := 0) (by omega) (by decide) ⟨fun c => absurd ?_ c, fun _ => hq⟩⟩⟩⟩⟩⟩) (fun hr => ⟨fun _ => ⟨fun c => absurd c (by decide), fun _ => sp_L_filled h hK.srt hin h1 h3 (r := 0) (by omega) (by decide) ⟨fun c => absurd ?_ c, fun _ => ?_⟩⟩, fun c => absurd rfl c⟩)⟩)⟩
  · unfold fil
    rw [hrx, if_pos hr]
  · unfold fil
    rw [if_pos hr]
  · unfold fil
    rw [if_pos hr]
  · unfold fil
    rw [if_neg (fun y => y hr), if_pos rfl]
  · generalize hG : gk (ln t) (hz t) (Pl i) = G
    have hGm : ∀ y ∈ G, y ∈ gk (ln t) (hz t) (Pl i) := fun y hy => by rw [hG]; exact hy
    have hno : ∀ y ∈ G, kg y ≠ f := fun y hy q => by
      obtain ⟨_, _, g3, _, _, g6, _⟩ := gk_e (hK.srt i hin) (hGm y hy)
      rw [show y.1 = f from q, hr] at g6
      exact g3 g6.symm
    have hE : ∀ x', bg (ln t) x' = f → er hz (Pl i) t x' = (lo kg f G).getLast? := fun x' q => by
      unfold er
      rw [q, hG]
    have hL : ∀ x', bg (ln t) x' = f → lr hz (Pl i) t x' = (hi kg (f + 1) G).head? := fun x' q => by
      unfold lr
      rw [q, hG, hi_new hno]
    have hrx0 : ¬ rl hz (Pl i) t (f + x % ln t) ≠ [] := fun y => y (hrx.trans hr)
    have F1 : fil hz (Pl i) t f 1 = filM (lo kg f G).getLast? (hi kg (f + 1) G).head? 1 f := by
      unfold fil
      rw [if_neg (fun y => y hr), if_neg (by decide), hE f hbf, hL f hbf, hbf]
    have F2 : fil hz (Pl i) t (f + x % ln t) 2 = filM (lo kg f G).getLast? (hi kg (f + 1) G).head? 2 f := by
      unfold fil
      rw [if_neg hrx0, if_neg (by decide), hE _ hbx, hL _ hbx, hbx]
    by_cases qa : lo kg f G = []
    · rw [qa] at F1 F2
      have F1 : fil hz (Pl i) t f 1 = -2000000 := F1
      have F2 : fil hz (Pl i) t (f + x % ln t) 2 = -2000000 := F2
      rw [qa, show fEnd [] = -1 from rfl]
      refine ⟨fun c => absurd c (by decide), fun _ => ?_⟩
      unfold wp_L_areGaps_316 wp_L_areGaps_324
      exact ⟨fun c => absurd F1 c, fun _ => ⟨fun _ => ag336 hq F2, fun c => absurd (by decide) c⟩⟩
    · obtain ⟨U2, e9, eU2⟩ : ∃ U2 e9, lo kg f G = U2 ++ [e9] := ⟨(lo kg f G).dropLast, (lo kg f G).getLast qa, (List.dropLast_concat_getLast qa).symm⟩
      have m9 : e9 ∈ lo kg f G := by rw [eU2]; exact List.mem_append_right _ List.mem_cons_self
      have k9 := (mem_lo.mp m9).2
      obtain ⟨k1, k2, k3, k4, k5, k6, k7, k8⟩ := hK.gx hin (hGm e9 (mem_lo.mp m9).1)
      have eL : (lo kg f G).getLast? = some e9 := by rw [eU2, List.getLast?_append]; rfl
      have hne9 : rl hz (Pl i) t e9.1 ≠ [] := by rw [k6]; exact k5
      rw [eL] at F1 F2
      have F1 : fil hz (Pl i) t f 1 = vLst e9.2 := by
        rw [F1]
        cases (hi kg (f + 1) G).head? <;> rfl
      rw [show fEnd (lo kg f G) = nI e9.1 by rw [eU2]; exact fEnd_app U2 e9]
      refine ⟨fun _ => ⟨h.1.1, q_last h hK.srt hin h1 h3 (by omega) hne9 ?_⟩, fun c => absurd (nI_pos' (by omega)) c⟩
      rw [k6]
      unfold wp_L_areGaps_316 wp_L_areGaps_324
      refine ⟨fun c => absurd F1 c, fun _ => ⟨fun c => absurd c (nI_pos (by omega)), fun _ => ?_⟩⟩
      by_cases qb : hi kg (f + 1) G = []
      · rw [qb] at F2
        have F2 : fil hz (Pl i) t (f + x % ln t) 2 = -2000000 := F2
        rw [qb, show fBeg [] = -1 from rfl]
        exact ⟨fun c => absurd c (by decide), fun _ => ag336 hq F2⟩
      · obtain ⟨e0, U', eU⟩ := List.exists_cons_of_ne_nil qb
        have m0 : e0 ∈ hi kg (f + 1) G := by rw [eU]; exact List.mem_cons_self
        have j9 := (mem_hi.mp m0).2
        obtain ⟨j1, j2, j3, j4, j5, j6, j7, j8⟩ := hK.gx hin (hGm e0 (mem_hi.mp m0).1)
        have hne0 : rl hz (Pl i) t e0.1 ≠ [] := by rw [j6]; exact j5
        rw [eU] at F2
        have F2 : fil hz (Pl i) t (f + x % ln t) 2 = btw e9 e0 f := F2
        have k9 : e9.1 < f := k9
        have j9 : f + 1 ≤ e0.1 := j9
        obtain ⟨b1, b2⟩ := btw_in (e := e9) (l := e0) (b := f) (by omega) (by omega) (by omega) (by omega) (w_int (k3 _ (vLst_mem k5))) (w_int (j3 _ (vLst_mem j5)))
        rw [eU, show fBeg (e0 :: U') = nI e0.1 from rfl]
        refine ⟨fun _ => ⟨h.1.1, q_last h hK.srt hin h1 h3 (by omega) hne9 ⟨h.1.1, q_last h hK.srt hin h1 h3 (by omega) hne0 ⟨fun c => absurd c (by decide), fun _ => ?_⟩⟩⟩, fun c => absurd (nI_pos' (by omega)) c⟩
        rw [k6, j6, F2]
        refine ⟨fun c => ag395 hq ?_ (fun _ => ?_) (fun d => absurd c d), fun c => ag395 hq ?_ (fun d => absurd d c) (fun _ => ?_)⟩
        · rw [Int32.le_iff_toInt_le] at c
          exact n_lt_of (b2 c).1
        · rw [Int32.le_iff_toInt_le] at c
          exact n_lt_of (b2 c).2
        · rw [Int32.le_iff_toInt_le] at c
          exact n_lt_of (b1 (by omega)).1
        · rw [Int32.le_iff_toInt_le] at c
          exact n_lt_of (b1 (by omega)).2
theorem ag105 (h : Sto m g o A R Z w su n ck sa kd rt hz Pl Cs) (hK : Pk n ck kd Pl) (hzb : ∀ i, i ≤ 3 → hz i < 2 ^ 31) {i t f e x c : Nat} (hin : i < n) (h1 : 1 ≤ t) (h3 : t ≤ 3) (hf : ln t ∣ f) (he : ln t ∣ e) (hfe : f ≤ e) (f30 : f < 2 ^ 30) (e31 : e < 2 ^ 31) (hx : x < 2 ^ 30) (hc : gapsN hz (Pl i) t f e = nI c) {Q : Int32 → MM → Prop} (hq : Q 1 m) : ∀ (k j : Nat), j + k = (gk (ln t) (hz t) (Pl i)).length → wp_L_areGaps_105 Q (k + 1) o (nI i) (nI t) (nI x) (nI (ln t)) (nI f) (nI e) (nI c) (fEnd (lo kg f ((gk (ln t) (hz t) (Pl i)).take j))) (fBeg (hi kg (f + 1) ((gk (ln t) (hz t) (Pl i)).take j))) (nI j) m := by
  have hb := h.rwsb hin h3
  have hr : rws hz (Pl i) t = (gk (ln t) (hz t) (Pl i)).length := by unfold rws; exact if_neg (by omega)
  intro k
  induction k with
  | zero =>
    intro j hj
    unfold wp_L_areGaps_105
    refine ⟨h.1.1, q_rows h hin h3 ⟨fun _ => ⟨h.1.1, q_gaps h hzb hin h1 h3 hf he hfe e31 ⟨fun c => absurd hc c, fun _ => ?_⟩⟩, fun c => absurd (nI_le (by omega) (by omega)) c⟩⟩
    rw [List.take_of_length_le (by omega)]
    exact ag189 h hK hin h1 h3 hf f30 hx hq
  | succ k ih =>
    intro j hj
    obtain ⟨y, hy⟩ : ∃ y, (gk (ln t) (hz t) (Pl i))[j]? = some y := ⟨_, List.getElem?_eq_getElem (by omega)⟩
    have hy2 := (hK.gx hin (List.mem_of_getElem? hy)).2.1
    have nx := ih (j + 1) (by omega)
    have hG : ∀ e ∈ gk (ln t) (hz t) (Pl i), e.1 < 2 ^ 31 := fun e he => by
      have := (hK.gx hin he).2.1
      omega
    unfold wp_L_areGaps_105
    refine ⟨h.1.1, q_rows h hin h3 ⟨fun c => absurd c (nI_ge (by omega) (by omega)), fun _ => ⟨h.1.1, q_timeOf h hin h3 (by omega) (rowT_g h1 hy) ⟨fun c => ag140 hy hG (by omega) ?_, fun c => ag140 hy hG (by omega) ?_⟩⟩⟩⟩
    · have c2 := (nI_leI (by omega) (by omega)).mp c
      rw [show lo kg f ((gk (ln t) (hz t) (Pl i)).take (j + 1)) = lo kg f ((gk (ln t) (hz t) (Pl i)).take j) by rw [take_1 hy, lo_1, if_neg (by omega)]] at nx
      exact nx
    · have c2 : y.1 < f := by
        rcases Nat.lt_or_ge y.1 f with q | q
        · exact q
        · exact absurd (nI_le q (by omega)) c
      rw [show lo kg f ((gk (ln t) (hz t) (Pl i)).take (j + 1)) = lo kg f ((gk (ln t) (hz t) (Pl i)).take j) ++ [y] by rw [take_1 hy, lo_1, if_pos c2], fEnd_app] at nx
      exact nx
theorem ag83 {Q : Int32 → MM → Prop} {K : Nat → Nat → Int32 → Int32 → Int32 → Int32 → Int32 → Int32 → Int32 → Int32 → MM → Prop} {q0 q1 : Nat} {q2 q3 q4 q6 q7 : Int32} {L a b c : Nat} (h : K q0 q1 q2 q3 q4 (nI L) q6 q7 (nI (c + b)) (nI (a + L)) m) : wp_L_areGaps_83 Q K q0 q1 q2 q3 q4 (nI L) q6 q7 (nI a) (nI b) (nI c) m := by
  unfold wp_L_areGaps_83
  rw [forall_eq, forall_eq, nI_add, nI_add]
  exact h
theorem ag47 (h : Sto m g o A R Z w su n ck sa kd rt hz Pl Cs) (hK : Pk n ck kd Pl) (hzb : ∀ i, i ≤ 3 → hz i < 2 ^ 31) (hR : Row m z kd rt hz) {i t f e x C : Nat} (hin : i < n) (h1 : 1 ≤ t) (h3 : t ≤ 3) (e31 : e < 2 ^ 31) {Q : Int32 → MM → Prop} (hq : ∃ n9, wp_L_areGaps_105 Q n9 o (nI i) (nI t) (nI x) (nI (ln t)) (nI f) (nI e) (nI C) (-1) (-1) 0 m) : ∀ (k a c : Nat), a + k * ln t = e → c + gcN hz (Pl i) t a k = C → wp_L_areGaps_47 Q (k + 1) o z (nI i) (nI t) (nI x) (nI (ln t)) (nI f) (nI e) (nI c) (nI a) m := by
  have hp := ln_pos t
  have hl := ln_le t
  have hll : ll t = ln t := ll_ln h1
  intro k
  induction k with
  | zero =>
    intro a c ha hc
    rw [Nat.zero_mul, Nat.add_zero] at ha
    have hc : c + 0 = C := hc
    rw [Nat.add_zero] at hc
    unfold wp_L_areGaps_47
    refine ⟨fun _ => ?_, fun d => absurd (nI_le (by omega) (by omega)) d⟩
    rw [forall_eq, forall_eq, forall_eq, hc]
    exact hq
  | succ k ih =>
    intro a c ha hc
    rw [Nat.succ_mul] at ha
    have hc : c + ((if hz t < a + ln t ∧ rl hz (Pl i) t a = [] then 1 else 0) + gcN hz (Pl i) t (a + ln t) k) = C := hc
    have hk : a + ln t ≤ e := by
      have := Nat.zero_le (k * ln t)
      omega
    unfold wp_L_areGaps_47
    refine ⟨fun d => absurd d (nI_ge (by omega) e31), fun _ => ?_⟩
    rw [nI_l (by omega)]
    refine sp_L_isGone hR h3 (by omega) (hzb t h3) (fun y => ⟨fun _ => ?_, fun d => absurd d (by decide)⟩) (fun y => ⟨fun d => absurd rfl d, fun _ => ⟨h.1.1, q_hasRollup h hK.srt hin h1 h3 (by omega) (fun hr => ⟨fun _ => ?_, fun d => absurd d (by decide)⟩) (fun hr => ⟨fun d => absurd rfl d, fun _ => ?_⟩)⟩⟩)
    · rw [hll] at y
      rw [if_neg (fun q => by omega), Nat.zero_add] at hc
      exact ag83 (b := 0) (ih (a + ln t) (c + 0) (by omega) (by omega))
    · rw [if_neg (fun q => hr q.2), Nat.zero_add] at hc
      exact ag83 (b := 0) (ih (a + ln t) (c + 0) (by omega) (by omega))
    · rw [hll] at y
      rw [if_pos ⟨y, hr⟩] at hc
      exact ag83 (b := 1) (ih (a + ln t) (c + 1) (by omega) (by omega))
theorem sp_L_areGaps (h : Sto m g o A R Z w su n ck sa kd rt hz Pl Cs) (hK : Pk n ck kd Pl) (hzb : ∀ i, i ≤ 3 → hz i < 2 ^ 31) (hR : Row m z kd rt hz) {i t x : Nat} (hin : i < n) (h1 : 1 ≤ t) (h3 : t ≤ 3) (hx : x < 2 ^ 30) {Q : Int32 → MM → Prop} (hq : Q 1 m) : wp_L_areGaps o z (nI i) (nI t) (nI x) m Q := by
  have hp := ln_pos t
  have hl := ln_le t
  have hck := hK.1
  have e1 : nI ck / nI (ln t) = nI (ck / ln t) := pk_div (by omega) hp (by omega)
  have hd9 : ck / ln t * ln t ≤ ck := Nat.div_mul_le_self ck (ln t)
  have hd8 : ck / ln t ≤ ck := Nat.div_le_self _ _
  generalize ck / ln t = u at e1 hd9 hd8
  have e2 : nI u + (2 : Int32) = nI (u + 2) := nI_add u 2
  have e3 : nI x - nI x / nI (u + 2) * nI (u + 2) = nI (x % (u + 2)) := pk_rem (by omega) (by omega) (by omega)
  have hm : x % (u + 2) < u + 2 := Nat.mod_lt _ (by omega)
  have e5 : nI x / (1000 : Int32) = nI (x / 1000) := pk_div (a := x) (d := 1000) (by omega) (by decide) (by decide)
  have e6 : nI (x / 1000) - nI (x / 1000) / (50 : Int32) * (50 : Int32) = nI (x / 1000 % 50) := pk_rem (a := x / 1000) (d := 50) (by omega) (by decide) (by decide)
  have hf1 : x % (u + 2) * ln t ≤ ck + 86400 := by
    have : x % (u + 2) * ln t ≤ (u + 1) * ln t := Nat.mul_le_mul_right _ (by omega)
    rw [Nat.succ_mul] at this
    omega
  have hf2 : x / 1000 % 50 * ln t ≤ 50 * 86400 := Nat.mul_le_mul (by omega) hl
  unfold wp_L_areGaps
  refine sp_L_length h3 ?_
  rw [ll_ln h1]
  refine ⟨h.1.1, sp_X5_clock h ⟨nI_ne0 hp (by omega), ?_⟩⟩
  rw [e1, e2]
  refine ⟨nI_ne0 (by omega) (by omega), ?_⟩
  rw [e3, forall_eq, pk_mul, forall_eq, e5, e6, pk_mul, nI_add, forall_eq]
  generalize hF : x % (u + 2) * ln t = f at hf1
  generalize hk : x / 1000 % 50 = k at hf2
  have hf : ln t ∣ f := ⟨x % (u + 2), by rw [← hF]; exact Nat.mul_comm _ _⟩
  have he : ln t ∣ f + k * ln t := Nat.dvd_add hf ⟨k, Nat.mul_comm _ _⟩
  have hx9 : ∃ n9, wp_L_areGaps_105 Q n9 o (nI i) (nI t) (nI x) (nI (ln t)) (nI f) (nI (f + k * ln t)) (nI (gcN hz (Pl i) t f k)) (-1) (-1) 0 m := ⟨_, ag105 h hK hzb hin h1 h3 hf he (by omega) (by omega) (by omega) hx (gaps_is (hK.srt i hin) hf) hq _ 0 (Nat.zero_add _)⟩
  exact ⟨_, ag47 h hK hzb hR hin h1 h3 (by omega) hx9 k f 0 rfl (Nat.zero_add _)⟩
end
