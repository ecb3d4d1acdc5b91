/-! EACH METHOD AS ITS wp SAYS: written by wip/whole/gen.py -/
theorem xs_out9 {x : Int32} (h : ¬ vp_in x 9) : x.toInt < 0 ∨ 8 < x.toInt := by
  rw [vp_in_iff] at h
  omega
set_option maxHeartbeats 4000000 in
set_option maxRecDepth 100000 in
theorem bk_L_allRows_4 {p : Program} {l : Launch} {e : Env} {s : State} {m : MethodId} {args : Array Value} {below : List Frame} {meth : Method} {c : Code} {G : GG} {base : Nat} (C0 : BC p s m args meth c G base RL cL_allRows 3 (some .int) wsL_allRows) (hl9 : l.stackTraces = false) {Q : Int32 → MM → Prop} : ∀ (n : Nat) (l0 : Nat) (l1 : Int32) (l2 : Int32) (m0 : MM) (H : Heap) (locs : List Loc) (ls : Array Slot), wp_L_allRows_4 Q n l0 l1 l2 m0 → hp G (xA base) m0 H → va_S (xA base) s.heap H locs → lv_has ls 3 [(0, .ref l0), (1, .int l1), (2, .int l2)] → W p l e ({ frames := 8, cells := 0, slots := 0, locals := 141 } : Room) s m args below meth c H locs 0 0 (MQ below (va_Qi Q (HB G base) (xA base)) args s 0 0 (xA base)) (F0 m 4 ls []) := by
  obtain ⟨hx, hb, hr, hml, hown, hts, hlocks, hK, hbase, hX⟩ := id C0
  intro n
  induction n with
  | zero =>
    intro l0 l1 l2 m0 H locs ls h
    unfold wp_L_allRows_4 at h
    exact h.elim
  | succ n ih =>
    intro l0 l1 l2 m0 H locs ls h hh hS hl
    unfold wp_L_allRows_4 at h
    refine lv_iload_n hx hb dL_allRows_4 rfl (lv_at hl 2 rfl) ?_
    refine lv_bipush (v := 8) hx hb dL_allRows_5 (by decide) ?_
    refine lv_icmp_ge (tgt := 29) hx hb dL_allRows_7 (by decide) (fun c3 => ?_) (fun c3 => ?_)
    · replace h := h.1 c3
      refine lv_iload_n hx hb dL_allRows_29 rfl (lv_at hl 1 rfl) ?_
      exact (xe_i hx hb hr hlocks hbase hh hK hX hS h (Nat.le_of_ble_eq_true rfl) (Nat.le_of_ble_eq_true rfl) dL_allRows_30)
    · replace h := h.2 c3
      refine lv_iload_n hx hb dL_allRows_10 rfl (lv_at hl 1 rfl) ?_
      refine lv_aload_n hx hb dL_allRows_11 rfl (lv_at hl 0 rfl) ?_
      refine lv_iload_n hx hb dL_allRows_12 rfl (lv_at hl 2 rfl) ?_
      refine lv_iconst (v := 4) hx hb dL_allRows_13 (by decide) ?_
      refine lv_idiv hx hb dL_allRows_14 (by decide) ?_
      refine lv_iload_n hx hb dL_allRows_15 rfl (lv_at hl 2 rfl) ?_
      refine lv_iconst (v := 4) hx hb dL_allRows_16 (by decide) ?_
      refine lv_irem hx hb dL_allRows_17 (by decide) ?_
      obtain ⟨g4, h⟩ := h
      refine xc_i (va_runV (As := [.int (l2 / (4 : Int32)), .int (l2 - l2 / (4 : Int32) * (4 : Int32))]) (rest := [.int l1]) ⟨hx, hb, hml, hown, hts⟩ (mtq_X5_rows l G base h) (cwV 2 hts gL_allRows_X5_rows rfl rfl rfl (by decide +kernel) ⟨Nat.le_of_ble_eq_true rfl, Nat.le_of_ble_eq_true rfl⟩) (xp_V hbase hh hK hX hS (ci := 5) g4 (by decide) rfl) rfl rfl hl.1 rfl (lv_room (Nat.le_of_ble_eq_true rfl)) dL_allRows_18 ⟨Nat.le_of_ble_eq_true rfl, Nat.le_of_ble_eq_true rfl⟩) hS (fun r5 m6 H locs h hh hS => ?_)
      refine lv_iadd hx hb dL_allRows_21 ?_
      refine lv_topi (fun x7 ex7 => ?_)
      replace h := h x7 ex7
      refine lv_istore_n (lv' := [(1, .int x7), (0, .ref l0), (2, .int l2)]) hx hb dL_allRows_22 rfl hl (by decide) rfl (fun ls hl => ?_)
      obtain ⟨x8, ex8⟩ : ∃ y : Int32, y = l2 + 1 := ⟨_, rfl⟩
      replace h := h x8 ex8
      refine lv_iinc (v := x8) (lv' := [(2, .int x8), (1, .int x7), (0, .ref l0)]) hx hb dL_allRows_23 hl (k := 2) rfl (by rw [ex8]; rfl) (by decide) rfl (fun ls hl => ?_)
      refine lv_goto (tgt := 4) hx hb dL_allRows_26 (by decide) ?_
      exact ih _ _ _ _ _ _ _ h hh hS (lv_sub hl [2, 1, 0] rfl)

set_option maxHeartbeats 4000000 in
set_option maxRecDepth 100000 in
theorem mt_L_allRows (l : Launch) (hl9 : l.stackTraces = false) (G : GG) (base : Nat) {p1 : Nat} {m0 : MM} {Q : Int32 → MM → Prop} (h : wp_L_allRows p1 m0 Q) : Met l yL_allRows wsL_allRows ({ frames := 8, cells := 0, slots := 0, locals := 141 }) (va_Pc [.ref p1] (SP G base m0)) (va_Qi Q (HB G base) (xA base)) 0 0 (xA base) := by
  refine Met.ofW (cc := cL_allRows) (maxL := 3) (ret := (some .int)) (by decide) rfl ?_
  intro p e s m args below meth c s₁ B hml hv
  obtain ⟨rfl, hbase, hh, hK, hX⟩ := hv
  have C0 : BC p s m _ meth c G base RL cL_allRows 3 (some .int) wsL_allRows := ⟨B.exec, B.bytes, B.returns, hml, findClass_of_methodNamed B.named, atoms_spec (ws := wsL_allRows) B.pre, B.notSynchronized, hK, hbase, hX⟩
  obtain ⟨hx, hb, hr, -, hown, hts, hlocks, -, -, -⟩ := id C0
  have hS : va_S (xA base) s.heap s.heap [] := va_S.rf
  have hl := lv_entry ([.ref p1]) (n := 3) (Nat.le_of_ble_eq_true rfl)
  rw [lg_entry_eq]
  generalize (lg_sl ([.ref p1]) ++ List.replicate (3 - (lg_sl ([.ref p1])).length) Slot.unset).toArray = ls at hl ⊢
  have hl : lv_has ls 3 [(0, .ref p1)] := hl
  unfold wp_L_allRows at h
  refine lv_iconst (v := 0) hx hb dL_allRows_0 (by decide) ?_
  refine lv_topi (fun x1 ex1 => ?_)
  replace h := h x1 ex1
  refine lv_istore_n (lv' := [(1, .int x1), (0, .ref p1)]) hx hb dL_allRows_1 rfl hl (by decide) rfl (fun ls hl => ?_)
  refine lv_iconst (v := 0) hx hb dL_allRows_2 (by decide) ?_
  refine lv_topi (fun x2 ex2 => ?_)
  replace h := h x2 ex2
  refine lv_istore_n (lv' := [(2, .int x2), (1, .int x1), (0, .ref p1)]) hx hb dL_allRows_3 rfl hl (by decide) rfl (fun ls hl => ?_)
  obtain ⟨n9, h⟩ := h
  exact bk_L_allRows_4 C0 hl9  n9 _ _ _ _ _ _ _ h hh hS (lv_sub hl [2, 1, 0] rfl)

set_option maxHeartbeats 4000000 in
set_option maxRecDepth 100000 in
theorem mt_L_length (l : Launch) (hl9 : l.stackTraces = false) (G : GG) (base : Nat) {p1 : Int32} {m0 : MM} {Q : Int32 → MM → Prop} (h : wp_L_length p1 m0 Q) : Met l yL_length wsL_length ({ frames := 0, cells := 0, slots := 0, locals := 8 }) (va_Pc [.int p1] (SP G base m0)) (va_Qi Q (HB G base) (xA base)) 0 0 (xA base) := by
  refine Met.ofW (cc := cL_length) (maxL := 1) (ret := (some .int)) (by decide) rfl ?_
  intro p e s m args below meth c s₁ B hml hv
  obtain ⟨rfl, hbase, hh, hK, hX⟩ := hv
  have C0 : BC p s m _ meth c G base RL cL_length 1 (some .int) wsL_length := ⟨B.exec, B.bytes, B.returns, hml, findClass_of_methodNamed B.named, atoms_spec (ws := wsL_length) B.pre, B.notSynchronized, hK, hbase, hX⟩
  obtain ⟨hx, hb, hr, -, hown, hts, hlocks, -, -, -⟩ := id C0
  have hS : va_S (xA base) s.heap s.heap [] := va_S.rf
  have hl := lv_entry ([.int p1]) (n := 1) (Nat.le_of_ble_eq_true rfl)
  rw [lg_entry_eq]
  generalize (lg_sl ([.int p1]) ++ List.replicate (1 - (lg_sl ([.int p1])).length) Slot.unset).toArray = ls at hl ⊢
  have hl : lv_has ls 1 [(0, .int p1)] := hl
  unfold wp_L_length at h
  have q1 : (Cond.constant RL 10 (86400)).before _ s = true := hts _ (List.mem_cons_of_mem _ (List.mem_of_getElem? (i := 0) rfl))
  refine lv_iload_n hx hb dL_length_0 rfl (lv_at hl 0 rfl) ?_
  refine lv_if_ne (tgt := 8) hx hb dL_length_1 (by decide) (fun c1 => ?_) (fun c1 => ?_)
  · replace h := h.1 c1
    refine lv_iload_n hx hb dL_length_8 rfl (lv_at hl 0 rfl) ?_
    refine lv_iconst (v := 1) hx hb dL_length_9 (by decide) ?_
    refine lv_icmp_ne (tgt := 18) hx hb dL_length_10 (by decide) (fun c2 => ?_) (fun c2 => ?_)
    · replace h := h.1 c2
      refine lv_iload_n hx hb dL_length_18 rfl (lv_at hl 0 rfl) ?_
      refine lv_iconst (v := 2) hx hb dL_length_19 (by decide) ?_
      refine lv_icmp_ne (tgt := 29) hx hb dL_length_20 (by decide) (fun c3 => ?_) (fun c3 => ?_)
      · replace h := h.1 c3
        refine lv_ldc hx hb hown q1 dL_length_29 ?_
        exact (xe_i hx hb hr hlocks hbase hh hK hX hS h (Nat.le_of_ble_eq_true rfl) (Nat.le_of_ble_eq_true rfl) dL_length_31)
      · replace h := h.2 c3
        refine lv_sipush (v := 3600) hx hb dL_length_23 (by decide) ?_
        refine lv_goto (tgt := 31) hx hb dL_length_26 (by decide) ?_
        exact (xe_i hx hb hr hlocks hbase hh hK hX hS h (Nat.le_of_ble_eq_true rfl) (Nat.le_of_ble_eq_true rfl) dL_length_31)
    · replace h := h.2 c2
      refine lv_bipush (v := 60) hx hb dL_length_13 (by decide) ?_
      refine lv_goto (tgt := 31) hx hb dL_length_15 (by decide) ?_
      exact (xe_i hx hb hr hlocks hbase hh hK hX hS h (Nat.le_of_ble_eq_true rfl) (Nat.le_of_ble_eq_true rfl) dL_length_31)
  · replace h := h.2 c1
    refine lv_iconst (v := 1) hx hb dL_length_4 (by decide) ?_
    refine lv_goto (tgt := 31) hx hb dL_length_5 (by decide) ?_
    exact (xe_i hx hb hr hlocks hbase hh hK hX hS h (Nat.le_of_ble_eq_true rfl) (Nat.le_of_ble_eq_true rfl) dL_length_31)

set_option maxHeartbeats 4000000 in
set_option maxRecDepth 100000 in
theorem mt_L_isGone (l : Launch) (hl9 : l.stackTraces = false) (G : GG) (base : Nat) {p1 : Nat} {p2 : Int32} {p3 : Int64} {m0 : MM} {Q : Int32 → MM → Prop} (h : wp_L_isGone p1 p2 p3 m0 Q) : Met l yL_isGone wsL_isGone ({ frames := 1, cells := 0, slots := 0, locals := 28 }) (va_Pc [.ref p1, .int p2, .long p3] (SP G base m0)) (va_Qi Q (HB G base) (xA base)) 0 0 (xA base) := by
  refine Met.ofW (cc := cL_isGone) (maxL := 4) (ret := (some .boolean)) (by decide) rfl ?_
  intro p e s m args below meth c s₁ B hml hv
  obtain ⟨rfl, hbase, hh, hK, hX⟩ := hv
  have C0 : BC p s m _ meth c G base RL cL_isGone 4 (some .boolean) wsL_isGone := ⟨B.exec, B.bytes, B.returns, hml, findClass_of_methodNamed B.named, atoms_spec (ws := wsL_isGone) B.pre, B.notSynchronized, hK, hbase, hX⟩
  obtain ⟨hx, hb, hr, -, hown, hts, hlocks, -, -, -⟩ := id C0
  have hS : va_S (xA base) s.heap s.heap [] := va_S.rf
  have hl := lv_entry ([.ref p1, .int p2, .long p3]) (n := 4) (Nat.le_of_ble_eq_true rfl)
  rw [lg_entry_eq]
  generalize (lg_sl ([.ref p1, .int p2, .long p3]) ++ List.replicate (4 - (lg_sl ([.ref p1, .int p2, .long p3])).length) Slot.unset).toArray = ls at hl ⊢
  have hl : lv_has ls 4 [(0, .ref p1), (1, .int p2), (2, .long p3)] := hl
  unfold wp_L_isGone at h
  refine lv_lload_n hx hb dL_isGone_0 rfl (lv_at hl 2 rfl) ?_
  refine lv_iload_n hx hb dL_isGone_1 rfl (lv_at hl 1 rfl) ?_
  refine xc_i (va_runS (As := [.int p2]) (rest := [.long p3]) ⟨hx, hb, hml, hown, hts⟩ (mt_L_length l hl9 G base h) (va_cwS 1 hts gL_isGone_L_length rfl rfl rfl (by decide +kernel) ⟨Nat.le_of_ble_eq_true rfl, Nat.le_of_ble_eq_true rfl⟩) (xp_S hbase hh hK hX hS) rfl rfl hl.1 rfl (lv_room (Nat.le_of_ble_eq_true rfl)) dL_isGone_2 ⟨Nat.le_of_ble_eq_true rfl, Nat.le_of_ble_eq_true rfl⟩) hS (fun r1 m2 H locs h hh hS => ?_)
  refine lv_i2l hx hb dL_isGone_5 rfl ?_
  refine lv_ladd hx hb dL_isGone_6 ?_
  refine lv_aload_n hx hb dL_isGone_7 rfl (lv_at hl 0 rfl) ?_
  refine lv_bipush (v := 6) hx hb dL_isGone_8 (by decide) ?_
  refine lv_iload_n hx hb dL_isGone_10 rfl (lv_at hl 1 rfl) ?_
  refine lv_iadd hx hb dL_isGone_11 ?_
  obtain ⟨g3, h⟩ := h
  obtain ⟨g4, h⟩ := h
  refine xr_iald hx hb hK hh g3 g4 dL_isGone_12 ?_
  refine lv_i2l hx hb dL_isGone_13 rfl ?_
  refine W.lcmp hx hb dL_isGone_14 ?_
  refine lv_if_gt (tgt := 22) hx hb dL_isGone_15 (by decide) (fun c5 => ?_) (fun c5 => ?_)
  · replace h := h.1 c5
    refine lv_iconst (v := 0) hx hb dL_isGone_22 (by decide) ?_
    exact (xe_z hx hb hr hlocks hbase hh hK hX hS (Or.inl rfl) h (Nat.le_of_ble_eq_true rfl) (Nat.le_of_ble_eq_true rfl) dL_isGone_23)
  · replace h := h.2 c5
    refine lv_iconst (v := 1) hx hb dL_isGone_18 (by decide) ?_
    refine lv_goto (tgt := 23) hx hb dL_isGone_19 (by decide) ?_
    exact (xe_z hx hb hr hlocks hbase hh hK hX hS (Or.inr rfl) h (Nat.le_of_ble_eq_true rfl) (Nat.le_of_ble_eq_true rfl) dL_isGone_23)

set_option maxHeartbeats 4000000 in
set_option maxRecDepth 100000 in
theorem mt_L_filled (l : Launch) (hl9 : l.stackTraces = false) (G : GG) (base : Nat) {p1 : Nat} {p2 : Int32} {p3 : Int32} {p4 : Int32} {p5 : Int32} {m0 : MM} {Q : Int32 → MM → Prop} (h : wp_L_filled p1 p2 p3 p4 p5 m0 Q) : vx_Met l yL_filled wsL_filled ({ frames := 9, cells := 5, slots := 30, locals := 171 }) (va_Pc [.ref p1, .int p2, .int p3, .int p4, .int p5] (SP G base m0)) (va_Qi Q (HB G base) (xA base)) (xX G base (fun _ _ => False)) 5 30 (xA base) := by
  refine vx_ofWH (cc := cL_filled) (maxL := 6) (ret := (some .int)) (hh := [(0, 9, 10, 25)]) (by decide) rfl ?_
  intro p e s m args below meth c s₁ B hml hv
  obtain ⟨rfl, hbase, hh, hK, hX⟩ := hv
  have C0 : BC p s m _ meth c G base RL cL_filled 6 (some .int) wsL_filled := ⟨B.exec, B.bytes, B.returns, hml, findClass_of_methodNamed B.named, atoms_spec (ws := wsL_filled) B.pre, B.notSynchronized, hK, hbase, hX⟩
  obtain ⟨hx, hb, hr, -, hown, hts, hlocks, -, -, -⟩ := id C0
  have hS : va_S (xA base) s.heap s.heap [] := va_S.rf
  have hl := lv_entry ([.ref p1, .int p2, .int p3, .int p4, .int p5]) (n := 6) (Nat.le_of_ble_eq_true rfl)
  rw [lg_entry_eq]
  generalize (lg_sl ([.ref p1, .int p2, .int p3, .int p4, .int p5]) ++ List.replicate (6 - (lg_sl ([.ref p1, .int p2, .int p3, .int p4, .int p5])).length) Slot.unset).toArray = ls at hl ⊢
  have hl : lv_has ls 6 [(0, .ref p1), (1, .int p2), (2, .int p3), (3, .int p4), (4, .int p5)] := hl
  have htab : c.exceptionTable.toList = tableOf [(0, 9, 10, 25)] := vx_table (x := yL_law) B (hts _ List.mem_cons_self)
  unfold wp_L_filled at h
  have q1 : (Cond.classLink RL 25 "java/lang/IllegalStateException").before _ s = true := hts _ (List.mem_cons_of_mem _ (List.mem_append_left _ (List.mem_append_left _ (List.mem_append_left _ (List.mem_append_left _ (List.mem_append_left _ (List.mem_append_left _ (List.mem_append_left _ (List.mem_append_left _ (List.mem_of_getElem? (i := 0) rfl))))))))))
  have q2 : (Cond.constant RL 31 (-2000000)).before _ s = true := hts _ (List.mem_cons_of_mem _ (List.mem_append_left _ (List.mem_append_left _ (List.mem_append_left _ (List.mem_append_left _ (List.mem_append_left _ (List.mem_append_left _ (List.mem_append_left _ (List.mem_append_left _ (List.mem_of_getElem? (i := 1) rfl))))))))))
  refine lv_aload_n hx hb dL_filled_0 rfl (lv_at hl 0 rfl) ?_
  refine lv_iload_n hx hb dL_filled_1 rfl (lv_at hl 1 rfl) ?_
  refine lv_iload_n hx hb dL_filled_2 rfl (lv_at hl 2 rfl) ?_
  refine lv_iload_n hx hb dL_filled_3 rfl (lv_at hl 3 rfl) ?_
  refine lv_iload hx hb dL_filled_4 (lv_at hl 4 rfl) ?_
  obtain ⟨g1, h⟩ := h
  refine xt_i (vx_runV (As := [.int p2, .int p3, .int p4, .int p5]) (rest := []) ⟨hx, hb, hml, hown, hts⟩ (mt_X5_filled l hl9 G base h) (cwV 4 hts gL_filled_X5_filled rfl rfl rfl (by decide +kernel) ⟨Nat.le_of_ble_eq_true rfl, Nat.le_of_ble_eq_true rfl⟩) (xp_V hbase hh hK hX hS (ci := 5) g1 (by decide) rfl) rfl rfl hl.1 rfl (lv_room (Nat.le_of_ble_eq_true rfl)) dL_filled_6 ⟨Nat.le_of_ble_eq_true rfl, Nat.le_of_ble_eq_true rfl⟩) hS (fun k9 m9 H locs q9 ce h hh hS hc9 hv9 hcl9 => ?_) (fun r2 m3 H locs h hh hS => ?_)
  · by_cases z0 : k9 = 0
    · subst z0
      have h := h.1 rfl
      exact h.elim
    · by_cases z1 : k9 = 1
      · subst z1
        have h := h.2.1 rfl
        exact h.elim
      · rw [xN_2 z0 z1] at hcl9
        have h := h.2.2 z0 z1
        refine vx_catch (name := xN 2) hown [] (⟨0, 9, 10, 25⟩ : ExceptionTableEntry) [] (htab.trans rfl) (fun z hz => absurd hz List.not_mem_nil) rfl (by decide) q1 (va_Nw.use rfl (hX.2.2.1 2)) hc9 hv9 hcl9 ?_
        refine W.eq (g2 := F0 m 10 ls [.ref q9]) rfl ?_
        refine lv_astore (lv' := [(5, .ref q9), (0, .ref p1), (1, .int p2), (2, .int p3), (3, .int p4), (4, .int p5)]) hx hb dL_filled_10 hl (by decide) rfl (fun ls hl => ?_)
        refine lv_ldc hx hb hown q2 dL_filled_12 ?_
        exact vx_ret (xe_i hx hb hr hlocks hbase hh hK hX hS h (Nat.le_of_ble_eq_true rfl) (Nat.le_of_ble_eq_true rfl) dL_filled_14)
  exact vx_ret (xe_i hx hb hr hlocks hbase hh hK hX hS h (Nat.le_of_ble_eq_true rfl) (Nat.le_of_ble_eq_true rfl) dL_filled_9)

set_option maxHeartbeats 4000000 in
set_option maxRecDepth 100000 in
theorem bk_L_areGaps_336 {p : Program} {l : Launch} {e : Env} {s : State} {m : MethodId} {args : Array Value} {below : List Frame} {meth : Method} {c : Code} {G : GG} {base : Nat} (C0 : BC p s m args meth c G base RL cL_areGaps 16 (some .boolean) wsL_areGaps) (hl9 : l.stackTraces = false) {Q : Int32 → MM → Prop} : ∀ (l11 : Int32) (l12 : Int32) (m0 : MM) (H : Heap) (locs : List Loc) (ls : Array Slot), wp_L_areGaps_336 Q l11 l12 m0 → hp G (xA base) m0 H → va_S (xA base) s.heap H locs → lv_has ls 16 [(11, .int l11), (12, .int l12)] → W p l e ({ frames := 11, cells := 15, slots := 90, locals := 212 } : Room) s m args below meth c H locs 15 90 (MQ below (va_Qi Q (HB G base) (xA base)) args s 15 90 (xA base)) (F0 m 336 ls []) := by
  obtain ⟨hx, hb, hr, hml, hown, hts, hlocks, hK, hbase, hX⟩ := id C0
  intro l11 l12 m0 H locs ls h hh hS hl
  unfold wp_L_areGaps_336 at h
  have q1 : (Cond.constant RL 31 (-2000000)).before _ s = true := hts _ (List.mem_cons_of_mem _ (List.mem_append_left _ (List.mem_append_left _ (List.mem_append_left _ (List.mem_append_left _ (List.mem_append_left _ (List.mem_append_left _ (List.mem_append_left _ (List.mem_append_left _ (List.mem_append_left _ (List.mem_of_getElem? (i := 0) rfl)))))))))))
  refine lv_iload hx hb dL_areGaps_336 (lv_at hl 0 rfl) ?_
  refine lv_if_eq (tgt := 352) hx hb dL_areGaps_338 (by decide) (fun c34 => ?_) (fun c34 => ?_)
  · replace h := h.1 c34
    refine lv_iconst (v := 0) hx hb dL_areGaps_352 (by decide) ?_
    exact (xe_z hx hb hr hlocks hbase hh hK hX hS (Or.inl rfl) h (Nat.le_of_ble_eq_true rfl) (Nat.le_of_ble_eq_true rfl) dL_areGaps_353)
  · replace h := h.2 c34
    refine lv_iload hx hb dL_areGaps_341 (lv_at hl 1 rfl) ?_
    refine lv_ldc hx hb hown q1 dL_areGaps_343 ?_
    refine lv_icmp_ne (tgt := 352) hx hb dL_areGaps_345 (by decide) (fun c35 => ?_) (fun c35 => ?_)
    · replace h := h.1 c35
      refine lv_iconst (v := 0) hx hb dL_areGaps_352 (by decide) ?_
      exact (xe_z hx hb hr hlocks hbase hh hK hX hS (Or.inl rfl) h (Nat.le_of_ble_eq_true rfl) (Nat.le_of_ble_eq_true rfl) dL_areGaps_353)
    · replace h := h.2 c35
      refine lv_iconst (v := 1) hx hb dL_areGaps_348 (by decide) ?_
      refine lv_goto (tgt := 353) hx hb dL_areGaps_349 (by decide) ?_
      exact (xe_z hx hb hr hlocks hbase hh hK hX hS (Or.inr rfl) h (Nat.le_of_ble_eq_true rfl) (Nat.le_of_ble_eq_true rfl) dL_areGaps_353)

set_option maxHeartbeats 4000000 in
set_option maxRecDepth 100000 in
theorem bk_L_areGaps_395 {p : Program} {l : Launch} {e : Env} {s : State} {m : MethodId} {args : Array Value} {below : List Frame} {meth : Method} {c : Code} {G : GG} {base : Nat} (C0 : BC p s m args meth c G base RL cL_areGaps 16 (some .boolean) wsL_areGaps) (hl9 : l.stackTraces = false) {Q : Int32 → MM → Prop} : ∀ (l12 : Int32) (l14 : Int32) (l15 : Int32) (s0 : Int32) (s1 : Int32) (m0 : MM) (H : Heap) (locs : List Loc) (ls : Array Slot), wp_L_areGaps_395 Q l12 l14 l15 s0 s1 m0 → hp G (xA base) m0 H → va_S (xA base) s.heap H locs → lv_has ls 16 [(12, .int l12), (14, .int l14), (15, .int l15)] → W p l e ({ frames := 11, cells := 15, slots := 90, locals := 212 } : Room) s m args below meth c H locs 15 90 (MQ below (va_Qi Q (HB G base) (xA base)) args s 15 90 (xA base)) (F0 m 395 ls [.int s0, .int s1]) := by
  obtain ⟨hx, hb, hr, hml, hown, hts, hlocks, hK, hbase, hX⟩ := id C0
  intro l12 l14 l15 s0 s1 m0 H locs ls h hh hS hl
  unfold wp_L_areGaps_395 at h
  refine lv_icmp_lt (tgt := 421) hx hb dL_areGaps_395 (by decide) (fun c45 => ?_) (fun c45 => ?_)
  · replace h := h.1 c45
    refine lv_iconst (v := 0) hx hb dL_areGaps_421 (by decide) ?_
    exact (xe_z hx hb hr hlocks hbase hh hK hX hS (Or.inl rfl) h (Nat.le_of_ble_eq_true rfl) (Nat.le_of_ble_eq_true rfl) dL_areGaps_422)
  · replace h := h.2 c45
    refine lv_iload hx hb dL_areGaps_398 (lv_at hl 0 rfl) ?_
    refine lv_iload hx hb dL_areGaps_400 (lv_at hl 1 rfl) ?_
    refine lv_iload hx hb dL_areGaps_402 (lv_at hl 2 rfl) ?_
    refine lv_icmp_ge (tgt := 412) hx hb dL_areGaps_404 (by decide) (fun c46 => ?_) (fun c46 => ?_)
    · replace h := h.1 c46
      refine lv_iload hx hb dL_areGaps_412 (lv_at hl 1 rfl) ?_
      refine lv_icmp_gt (tgt := 421) hx hb dL_areGaps_414 (by decide) (fun c47 => ?_) (fun c47 => ?_)
      · replace h := h.1 c47
        refine lv_iconst (v := 0) hx hb dL_areGaps_421 (by decide) ?_
        exact (xe_z hx hb hr hlocks hbase hh hK hX hS (Or.inl rfl) h (Nat.le_of_ble_eq_true rfl) (Nat.le_of_ble_eq_true rfl) dL_areGaps_422)
      · replace h := h.2 c47
        refine lv_iconst (v := 1) hx hb dL_areGaps_417 (by decide) ?_
        refine lv_goto (tgt := 422) hx hb dL_areGaps_418 (by decide) ?_
        exact (xe_z hx hb hr hlocks hbase hh hK hX hS (Or.inr rfl) h (Nat.le_of_ble_eq_true rfl) (Nat.le_of_ble_eq_true rfl) dL_areGaps_422)
    · replace h := h.2 c46
      refine lv_iload hx hb dL_areGaps_407 (lv_at hl 2 rfl) ?_
      refine lv_goto (tgt := 414) hx hb dL_areGaps_409 (by decide) ?_
      refine lv_icmp_gt (tgt := 421) hx hb dL_areGaps_414 (by decide) (fun c48 => ?_) (fun c48 => ?_)
      · replace h := h.1 c48
        refine lv_iconst (v := 0) hx hb dL_areGaps_421 (by decide) ?_
        exact (xe_z hx hb hr hlocks hbase hh hK hX hS (Or.inl rfl) h (Nat.le_of_ble_eq_true rfl) (Nat.le_of_ble_eq_true rfl) dL_areGaps_422)
      · replace h := h.2 c48
        refine lv_iconst (v := 1) hx hb dL_areGaps_417 (by decide) ?_
        refine lv_goto (tgt := 422) hx hb dL_areGaps_418 (by decide) ?_
        exact (xe_z hx hb hr hlocks hbase hh hK hX hS (Or.inr rfl) h (Nat.le_of_ble_eq_true rfl) (Nat.le_of_ble_eq_true rfl) dL_areGaps_422)

set_option maxHeartbeats 4000000 in
set_option maxRecDepth 100000 in
theorem bk_L_areGaps_324 {p : Program} {l : Launch} {e : Env} {s : State} {m : MethodId} {args : Array Value} {below : List Frame} {meth : Method} {c : Code} {G : GG} {base : Nat} (C0 : BC p s m args meth c G base RL cL_areGaps 16 (some .boolean) wsL_areGaps) (hl9 : l.stackTraces = false) {Q : Int32 → MM → Prop} : ∀ (l0 : Nat) (l2 : Int32) (l3 : Int32) (l9 : Int32) (l10 : Int32) (l12 : Int32) (s0 : Int32) (m0 : MM) (H : Heap) (locs : List Loc) (ls : Array Slot), wp_L_areGaps_324 Q l0 l2 l3 l9 l10 l12 s0 m0 → hp G (xA base) m0 H → va_S (xA base) s.heap H locs → lv_has ls 16 [(0, .ref l0), (2, .int l2), (3, .int l3), (9, .int l9), (10, .int l10), (12, .int l12)] → W p l e ({ frames := 11, cells := 15, slots := 90, locals := 212 } : Room) s m args below meth c H locs 15 90 (MQ below (va_Qi Q (HB G base) (xA base)) args s 15 90 (xA base)) (F0 m 324 ls [.int s0]) := by
  obtain ⟨hx, hb, hr, hml, hown, hts, hlocks, hK, hbase, hX⟩ := id C0
  intro l0 l2 l3 l9 l10 l12 s0 m0 H locs ls h hh hS hl
  unfold wp_L_areGaps_324 at h
  refine lv_istore (lv' := [(11, .int s0), (0, .ref l0), (2, .int l2), (3, .int l3), (9, .int l9), (10, .int l10), (12, .int l12)]) hx hb dL_areGaps_324 hl (by decide) rfl (fun ls hl => ?_)
  refine lv_iload hx hb dL_areGaps_326 (lv_at hl 4 rfl) ?_
  refine lv_if_lt (tgt := 336) hx hb dL_areGaps_328 (by decide) (fun c33 => ?_) (fun c33 => ?_)
  · replace h := h.1 c33
    refine W.widen (k := 15) (n := 90) (Nat.le_of_ble_eq_true rfl) (Nat.le_of_ble_eq_true rfl) ?_
    exact bk_L_areGaps_336 C0 hl9  _ _ _ _ _ _ h hh hS (lv_sub hl [0, 6] rfl)
  · replace h := h.2 c33
    refine lv_iload hx hb dL_areGaps_331 (lv_at hl 5 rfl) ?_
    refine lv_if_ge (tgt := 354) hx hb dL_areGaps_333 (by decide) (fun c36 => ?_) (fun c36 => ?_)
    · replace h := h.1 c36
      refine lv_aload_n hx hb dL_areGaps_354 rfl (lv_at hl 1 rfl) ?_
      refine lv_iload_n hx hb dL_areGaps_355 rfl (lv_at hl 2 rfl) ?_
      refine lv_iload_n hx hb dL_areGaps_356 rfl (lv_at hl 3 rfl) ?_
      refine lv_iload hx hb dL_areGaps_357 (lv_at hl 4 rfl) ?_
      obtain ⟨g37, h⟩ := h
      refine xc_i (va_runV (As := [.int l2, .int l3, .int l9]) (rest := []) ⟨hx, hb, hml, hown, hts⟩ (mtq_X5_last l G base h) (cwV 3 hts gL_areGaps_X5_last rfl rfl rfl (by decide +kernel) ⟨Nat.le_of_ble_eq_true rfl, Nat.le_of_ble_eq_true rfl⟩) (xp_V hbase hh hK hX hS (ci := 5) g37 (by decide) rfl) rfl rfl hl.1 rfl (lv_room (Nat.le_of_ble_eq_true rfl)) dL_areGaps_359 ⟨Nat.le_of_ble_eq_true rfl, Nat.le_of_ble_eq_true rfl⟩) hS (fun r38 m39 H locs h hh hS => ?_)
      refine lv_istore (lv' := [(14, .int r38), (11, .int s0), (0, .ref l0), (2, .int l2), (3, .int l3), (9, .int l9), (10, .int l10), (12, .int l12)]) hx hb dL_areGaps_362 hl (by decide) rfl (fun ls hl => ?_)
      refine lv_aload_n hx hb dL_areGaps_364 rfl (lv_at hl 2 rfl) ?_
      refine lv_iload_n hx hb dL_areGaps_365 rfl (lv_at hl 3 rfl) ?_
      refine lv_iload_n hx hb dL_areGaps_366 rfl (lv_at hl 4 rfl) ?_
      refine lv_iload hx hb dL_areGaps_367 (lv_at hl 6 rfl) ?_
      obtain ⟨g40, h⟩ := h
      refine xc_i (va_runV (As := [.int l2, .int l3, .int l10]) (rest := []) ⟨hx, hb, hml, hown, hts⟩ (mtq_X5_last l G base h) (cwV 3 hts gL_areGaps_X5_last rfl rfl rfl (by decide +kernel) ⟨Nat.le_of_ble_eq_true rfl, Nat.le_of_ble_eq_true rfl⟩) (xp_V hbase hh hK hX hS (ci := 5) g40 (by decide) rfl) rfl rfl hl.1 rfl (lv_room (Nat.le_of_ble_eq_true rfl)) dL_areGaps_369 ⟨Nat.le_of_ble_eq_true rfl, Nat.le_of_ble_eq_true rfl⟩) hS (fun r41 m42 H locs h hh hS => ?_)
      refine lv_istore (lv' := [(15, .int r41), (14, .int r38), (11, .int s0), (0, .ref l0), (2, .int l2), (3, .int l3), (9, .int l9), (10, .int l10), (12, .int l12)]) hx hb dL_areGaps_372 hl (by decide) rfl (fun ls hl => ?_)
      refine lv_iload hx hb dL_areGaps_374 (lv_at hl 2 rfl) ?_
      refine lv_if_eq (tgt := 421) hx hb dL_areGaps_376 (by decide) (fun c43 => ?_) (fun c43 => ?_)
      · replace h := h.1 c43
        refine lv_iconst (v := 0) hx hb dL_areGaps_421 (by decide) ?_
        exact (xe_z hx hb hr hlocks hbase hh hK hX hS (Or.inl rfl) h (Nat.le_of_ble_eq_true rfl) (Nat.le_of_ble_eq_true rfl) dL_areGaps_422)
      · replace h := h.2 c43
        refine lv_iload hx hb dL_areGaps_379 (lv_at hl 8 rfl) ?_
        refine lv_iload hx hb dL_areGaps_381 (lv_at hl 1 rfl) ?_
        refine lv_iload hx hb dL_areGaps_383 (lv_at hl 0 rfl) ?_
        refine lv_icmp_ge (tgt := 393) hx hb dL_areGaps_385 (by decide) (fun c44 => ?_) (fun c44 => ?_)
        · replace h := h.1 c44
          refine lv_iload hx hb dL_areGaps_393 (lv_at hl 0 rfl) ?_
          refine W.widen (k := 15) (n := 90) (Nat.le_of_ble_eq_true rfl) (Nat.le_of_ble_eq_true rfl) ?_
          exact bk_L_areGaps_395 C0 hl9  _ _ _ _ _ _ _ _ _ h hh hS (lv_sub hl [8, 1, 0] rfl)
        · replace h := h.2 c44
          refine lv_iload hx hb dL_areGaps_388 (lv_at hl 1 rfl) ?_
          refine lv_goto (tgt := 395) hx hb dL_areGaps_390 (by decide) ?_
          refine W.widen (k := 15) (n := 90) (Nat.le_of_ble_eq_true rfl) (Nat.le_of_ble_eq_true rfl) ?_
          exact bk_L_areGaps_395 C0 hl9  _ _ _ _ _ _ _ _ _ h hh hS (lv_sub hl [8, 1, 0] rfl)
    · replace h := h.2 c36
      refine W.widen (k := 15) (n := 90) (Nat.le_of_ble_eq_true rfl) (Nat.le_of_ble_eq_true rfl) ?_
      exact bk_L_areGaps_336 C0 hl9  _ _ _ _ _ _ h hh hS (lv_sub hl [0, 6] rfl)

set_option maxHeartbeats 4000000 in
set_option maxRecDepth 100000 in
theorem bk_L_areGaps_323 {p : Program} {l : Launch} {e : Env} {s : State} {m : MethodId} {args : Array Value} {below : List Frame} {meth : Method} {c : Code} {G : GG} {base : Nat} (C0 : BC p s m args meth c G base RL cL_areGaps 16 (some .boolean) wsL_areGaps) (hl9 : l.stackTraces = false) {Q : Int32 → MM → Prop} : ∀ (l0 : Nat) (l2 : Int32) (l3 : Int32) (l9 : Int32) (l10 : Int32) (l12 : Int32) (m0 : MM) (H : Heap) (locs : List Loc) (ls : Array Slot), wp_L_areGaps_323 Q l0 l2 l3 l9 l10 l12 m0 → hp G (xA base) m0 H → va_S (xA base) s.heap H locs → lv_has ls 16 [(0, .ref l0), (2, .int l2), (3, .int l3), (9, .int l9), (10, .int l10), (12, .int l12)] → W p l e ({ frames := 11, cells := 15, slots := 90, locals := 212 } : Room) s m args below meth c H locs 15 90 (MQ below (va_Qi Q (HB G base) (xA base)) args s 15 90 (xA base)) (F0 m 323 ls []) := by
  obtain ⟨hx, hb, hr, hml, hown, hts, hlocks, hK, hbase, hX⟩ := id C0
  intro l0 l2 l3 l9 l10 l12 m0 H locs ls h hh hS hl
  unfold wp_L_areGaps_323 at h
  refine lv_iconst (v := 0) hx hb dL_areGaps_323 (by decide) ?_
  refine W.widen (k := 15) (n := 90) (Nat.le_of_ble_eq_true rfl) (Nat.le_of_ble_eq_true rfl) ?_
  exact bk_L_areGaps_324 C0 hl9  _ _ _ _ _ _ _ _ _ _ _ h hh hS (lv_sub hl [0, 1, 2, 3, 4, 5] rfl)

set_option maxHeartbeats 4000000 in
set_option maxRecDepth 100000 in
theorem bk_L_areGaps_316 {p : Program} {l : Launch} {e : Env} {s : State} {m : MethodId} {args : Array Value} {below : List Frame} {meth : Method} {c : Code} {G : GG} {base : Nat} (C0 : BC p s m args meth c G base RL cL_areGaps 16 (some .boolean) wsL_areGaps) (hl9 : l.stackTraces = false) {Q : Int32 → MM → Prop} : ∀ (l0 : Nat) (l2 : Int32) (l3 : Int32) (l9 : Int32) (l10 : Int32) (l12 : Int32) (s0 : Int32) (s1 : Int32) (m0 : MM) (H : Heap) (locs : List Loc) (ls : Array Slot), wp_L_areGaps_316 Q l0 l2 l3 l9 l10 l12 s0 s1 m0 → hp G (xA base) m0 H → va_S (xA base) s.heap H locs → lv_has ls 16 [(0, .ref l0), (2, .int l2), (3, .int l3), (9, .int l9), (10, .int l10), (12, .int l12)] → W p l e ({ frames := 11, cells := 15, slots := 90, locals := 212 } : Room) s m args below meth c H locs 15 90 (MQ below (va_Qi Q (HB G base) (xA base)) args s 15 90 (xA base)) (F0 m 316 ls [.int s0, .int s1]) := by
  obtain ⟨hx, hb, hr, hml, hown, hts, hlocks, hK, hbase, hX⟩ := id C0
  intro l0 l2 l3 l9 l10 l12 s0 s1 m0 H locs ls h hh hS hl
  unfold wp_L_areGaps_316 at h
  refine lv_icmp_ne (tgt := 323) hx hb dL_areGaps_316 (by decide) (fun c56 => ?_) (fun c56 => ?_)
  · replace h := h.1 c56
    refine W.widen (k := 15) (n := 90) (Nat.le_of_ble_eq_true rfl) (Nat.le_of_ble_eq_true rfl) ?_
    exact bk_L_areGaps_323 C0 hl9  _ _ _ _ _ _ _ _ _ _ h hh hS (lv_sub hl [0, 1, 2, 3, 4, 5] rfl)
  · replace h := h.2 c56
    refine lv_iconst (v := 1) hx hb dL_areGaps_319 (by decide) ?_
    refine lv_goto (tgt := 324) hx hb dL_areGaps_320 (by decide) ?_
    refine W.widen (k := 15) (n := 90) (Nat.le_of_ble_eq_true rfl) (Nat.le_of_ble_eq_true rfl) ?_
    exact bk_L_areGaps_324 C0 hl9  _ _ _ _ _ _ _ _ _ _ _ h hh hS (lv_sub hl [0, 1, 2, 3, 4, 5] rfl)

set_option maxHeartbeats 4000000 in
set_option maxRecDepth 100000 in
theorem bk_L_areGaps_189 {p : Program} {l : Launch} {e : Env} {s : State} {m : MethodId} {args : Array Value} {below : List Frame} {meth : Method} {c : Code} {G : GG} {base : Nat} (C0 : BC p s m args meth c G base RL cL_areGaps 16 (some .boolean) wsL_areGaps) (hl9 : l.stackTraces = false) {Q : Int32 → MM → Prop} : ∀ (l0 : Nat) (l2 : Int32) (l3 : Int32) (l4 : Int32) (l5 : Int32) (l6 : Int32) (l9 : Int32) (l10 : Int32) (s0 : Int32) (m0 : MM) (H : Heap) (locs : List Loc) (ls : Array Slot), wp_L_areGaps_189 Q l0 l2 l3 l4 l5 l6 l9 l10 s0 m0 → hp G (xA base) m0 H → va_S (xA base) s.heap H locs → lv_has ls 16 [(0, .ref l0), (2, .int l2), (3, .int l3), (4, .int l4), (5, .int l5), (6, .int l6), (9, .int l9), (10, .int l10)] → W p l e ({ frames := 11, cells := 15, slots := 90, locals := 212 } : Room) s m args below meth c H locs 0 0 (MQ below (va_Qi Q (HB G base) (xA base)) args s 15 90 (xA base)) (F0 m 189 ls [.int s0]) := by
  obtain ⟨hx, hb, hr, hml, hown, hts, hlocks, hK, hbase, hX⟩ := id C0
  intro l0 l2 l3 l4 l5 l6 l9 l10 s0 m0 H locs ls h hh hS hl
  unfold wp_L_areGaps_189 at h
  have q1 : (Cond.constant RL 31 (-2000000)).before _ s = true := hts _ (List.mem_cons_of_mem _ (List.mem_append_left _ (List.mem_append_left _ (List.mem_append_left _ (List.mem_append_left _ (List.mem_append_left _ (List.mem_append_left _ (List.mem_append_left _ (List.mem_append_left _ (List.mem_append_left _ (List.mem_of_getElem? (i := 0) rfl)))))))))))
  refine lv_istore (lv' := [(11, .int s0), (0, .ref l0), (2, .int l2), (3, .int l3), (4, .int l4), (5, .int l5), (6, .int l6), (9, .int l9), (10, .int l10)]) hx hb dL_areGaps_189 hl (by decide) rfl (fun ls hl => ?_)
  refine lv_aload_n hx hb dL_areGaps_191 rfl (lv_at hl 1 rfl) ?_
  refine lv_iload_n hx hb dL_areGaps_192 rfl (lv_at hl 2 rfl) ?_
  refine lv_iload_n hx hb dL_areGaps_193 rfl (lv_at hl 3 rfl) ?_
  refine lv_iload hx hb dL_areGaps_194 (lv_at hl 6 rfl) ?_
  refine lv_iload hx hb dL_areGaps_196 (lv_at hl 4 rfl) ?_
  refine lv_iload hx hb dL_areGaps_198 (lv_at hl 5 rfl) ?_
  obtain ⟨g23, h⟩ := h
  refine lv_irem hx hb dL_areGaps_200 g23 ?_
  refine lv_iadd hx hb dL_areGaps_201 ?_
  refine lv_iconst (v := 2) hx hb dL_areGaps_202 (by decide) ?_
  refine xt_i (vx_runSX (As := [.ref l0, .int l2, .int l3, .int (l6 + (l4 - l4 / l5 * l5)), .int (2 : Int32)]) (rest := []) ⟨hx, hb, hml, hown, hts⟩ (mt_L_filled l hl9 G base h) (vx_cwSW 5 hts gL_areGaps_L_filled rfl rfl rfl (by decide +kernel) ⟨Nat.le_of_ble_eq_true rfl, Nat.le_of_ble_eq_true rfl⟩) (xp_S hbase hh hK hX hS) rfl rfl hl.1 rfl (lv_room (Nat.le_of_ble_eq_true rfl)) dL_areGaps_203 ⟨Nat.le_of_ble_eq_true rfl, Nat.le_of_ble_eq_true rfl⟩) hS (fun k9 m9 H locs q9 ce h hh hS hc9 hv9 hcl9 => h.elim) (fun r24 m25 H locs h hh hS => ?_)
  refine lv_istore (lv' := [(12, .int r24), (11, .int s0), (0, .ref l0), (2, .int l2), (3, .int l3), (4, .int l4), (5, .int l5), (6, .int l6), (9, .int l9), (10, .int l10)]) hx hb dL_areGaps_206 hl (by decide) rfl (fun ls hl => ?_)
  refine lv_aload_n hx hb dL_areGaps_208 rfl (lv_at hl 2 rfl) ?_
  refine lv_iload_n hx hb dL_areGaps_209 rfl (lv_at hl 3 rfl) ?_
  refine lv_iload_n hx hb dL_areGaps_210 rfl (lv_at hl 4 rfl) ?_
  refine lv_iload hx hb dL_areGaps_211 (lv_at hl 7 rfl) ?_
  refine lv_iconst (v := 1) hx hb dL_areGaps_213 (by decide) ?_
  refine xt_i (vx_runSX (As := [.ref l0, .int l2, .int l3, .int l6, .int (1 : Int32)]) (rest := []) ⟨hx, hb, hml, hown, hts⟩ (mt_L_filled l hl9 G base h) (vx_cwSW 5 hts gL_areGaps_L_filled rfl rfl rfl (by decide +kernel) ⟨Nat.le_of_ble_eq_true rfl, Nat.le_of_ble_eq_true rfl⟩) (xp_S hbase hh hK hX hS) rfl rfl hl.1 rfl (lv_room (Nat.le_of_ble_eq_true rfl)) dL_areGaps_214 ⟨Nat.le_of_ble_eq_true rfl, Nat.le_of_ble_eq_true rfl⟩) hS (fun k9 m9 H locs q9 ce h hh hS hc9 hv9 hcl9 => h.elim) (fun r26 m27 H locs h hh hS => ?_)
  refine lv_istore (lv' := [(13, .int r26), (12, .int r24), (11, .int s0), (0, .ref l0), (2, .int l2), (3, .int l3), (4, .int l4), (5, .int l5), (6, .int l6), (9, .int l9), (10, .int l10)]) hx hb dL_areGaps_217 hl (by decide) rfl (fun ls hl => ?_)
  refine lv_aload_n hx hb dL_areGaps_219 rfl (lv_at hl 3 rfl) ?_
  refine lv_iload_n hx hb dL_areGaps_220 rfl (lv_at hl 4 rfl) ?_
  refine lv_iload_n hx hb dL_areGaps_221 rfl (lv_at hl 5 rfl) ?_
  refine lv_iload hx hb dL_areGaps_222 (lv_at hl 8 rfl) ?_
  obtain ⟨g28, h⟩ := h
  refine xc_i (va_runV (As := [.int l2, .int l3, .int l6]) (rest := []) ⟨hx, hb, hml, hown, hts⟩ (mtq_X5_hasRollup l G base h) (cwV 3 hts gL_areGaps_X5_hasRollup rfl rfl rfl (by decide +kernel) ⟨Nat.le_of_ble_eq_true rfl, Nat.le_of_ble_eq_true rfl⟩) (xp_V hbase hh hK hX hS (ci := 5) g28 (by decide) rfl) rfl rfl hl.1 rfl (lv_room (Nat.le_of_ble_eq_true rfl)) dL_areGaps_224 ⟨Nat.le_of_ble_eq_true rfl, Nat.le_of_ble_eq_true rfl⟩) hS (fun r29 m30 H locs h hh hS => ?_)
  refine lv_if_eq (tgt := 279) hx hb dL_areGaps_227 (by decide) (fun c31 => ?_) (fun c31 => ?_)
  · replace h := h.1 c31
    refine lv_iload hx hb dL_areGaps_279 (lv_at hl 2 rfl) ?_
    refine lv_if_eq (tgt := 323) hx hb dL_areGaps_281 (by decide) (fun c32 => ?_) (fun c32 => ?_)
    · replace h := h.1 c32
      refine W.widen (k := 15) (n := 90) (Nat.le_of_ble_eq_true rfl) (Nat.le_of_ble_eq_true rfl) ?_
      exact bk_L_areGaps_323 C0 hl9  _ _ _ _ _ _ _ _ _ _ h hh hS (lv_sub hl [3, 4, 5, 9, 10, 1] rfl)
    · replace h := h.2 c32
      refine lv_aload_n hx hb dL_areGaps_284 rfl (lv_at hl 3 rfl) ?_
      refine lv_iload_n hx hb dL_areGaps_285 rfl (lv_at hl 4 rfl) ?_
      refine lv_iload_n hx hb dL_areGaps_286 rfl (lv_at hl 5 rfl) ?_
      refine lv_iload hx hb dL_areGaps_287 (lv_at hl 8 rfl) ?_
      refine lv_iconst (v := 0) hx hb dL_areGaps_289 (by decide) ?_
      refine xt_i (vx_runSX (As := [.ref l0, .int l2, .int l3, .int l6, .int (0 : Int32)]) (rest := []) ⟨hx, hb, hml, hown, hts⟩ (mt_L_filled l hl9 G base h) (vx_cwSW 5 hts gL_areGaps_L_filled rfl rfl rfl (by decide +kernel) ⟨Nat.le_of_ble_eq_true rfl, Nat.le_of_ble_eq_true rfl⟩) (xp_S hbase hh hK hX hS) rfl rfl hl.1 rfl (lv_room (Nat.le_of_ble_eq_true rfl)) dL_areGaps_290 ⟨Nat.le_of_ble_eq_true rfl, Nat.le_of_ble_eq_true rfl⟩) hS (fun k9 m9 H locs q9 ce h hh hS hc9 hv9 hcl9 => h.elim) (fun r49 m50 H locs h hh hS => ?_)
      refine lv_if_ne (tgt := 323) hx hb dL_areGaps_293 (by decide) (fun c51 => ?_) (fun c51 => ?_)
      · replace h := h.1 c51
        refine W.widen (k := 15) (n := 90) (Nat.le_of_ble_eq_true rfl) (Nat.le_of_ble_eq_true rfl) ?_
        exact bk_L_areGaps_323 C0 hl9  _ _ _ _ _ _ _ _ _ _ h hh hS (lv_sub hl [3, 4, 5, 9, 10, 1] rfl)
      · replace h := h.2 c51
        refine lv_iload hx hb dL_areGaps_296 (lv_at hl 0 rfl) ?_
        refine lv_iload hx hb dL_areGaps_298 (lv_at hl 9 rfl) ?_
        refine lv_if_ge (tgt := 308) hx hb dL_areGaps_300 (by decide) (fun c52 => ?_) (fun c52 => ?_)
        · replace h := h.1 c52
          refine lv_aload_n hx hb dL_areGaps_308 rfl (lv_at hl 3 rfl) ?_
          refine lv_iload_n hx hb dL_areGaps_309 rfl (lv_at hl 4 rfl) ?_
          refine lv_iload_n hx hb dL_areGaps_310 rfl (lv_at hl 5 rfl) ?_
          refine lv_iload hx hb dL_areGaps_311 (lv_at hl 9 rfl) ?_
          obtain ⟨g53, h⟩ := h
          refine xc_i (va_runV (As := [.int l2, .int l3, .int l9]) (rest := [.int r26]) ⟨hx, hb, hml, hown, hts⟩ (mtq_X5_last l G base h) (cwV 3 hts gL_areGaps_X5_last rfl rfl rfl (by decide +kernel) ⟨Nat.le_of_ble_eq_true rfl, Nat.le_of_ble_eq_true rfl⟩) (xp_V hbase hh hK hX hS (ci := 5) g53 (by decide) rfl) rfl rfl hl.1 rfl (lv_room (Nat.le_of_ble_eq_true rfl)) dL_areGaps_313 ⟨Nat.le_of_ble_eq_true rfl, Nat.le_of_ble_eq_true rfl⟩) hS (fun r54 m55 H locs h hh hS => ?_)
          refine W.widen (k := 15) (n := 90) (Nat.le_of_ble_eq_true rfl) (Nat.le_of_ble_eq_true rfl) ?_
          exact bk_L_areGaps_316 C0 hl9  _ _ _ _ _ _ _ _ _ _ _ _ h hh hS (lv_sub hl [3, 4, 5, 9, 10, 1] rfl)
        · replace h := h.2 c52
          refine lv_ldc hx hb hown q1 dL_areGaps_303 ?_
          refine lv_goto (tgt := 316) hx hb dL_areGaps_305 (by decide) ?_
          refine W.widen (k := 15) (n := 90) (Nat.le_of_ble_eq_true rfl) (Nat.le_of_ble_eq_true rfl) ?_
          exact bk_L_areGaps_316 C0 hl9  _ _ _ _ _ _ _ _ _ _ _ _ h hh hS (lv_sub hl [3, 4, 5, 9, 10, 1] rfl)
  · replace h := h.2 c31
    refine lv_aload_n hx hb dL_areGaps_230 rfl (lv_at hl 3 rfl) ?_
    refine lv_iload_n hx hb dL_areGaps_231 rfl (lv_at hl 4 rfl) ?_
    refine lv_iload_n hx hb dL_areGaps_232 rfl (lv_at hl 5 rfl) ?_
    refine lv_iload hx hb dL_areGaps_233 (lv_at hl 8 rfl) ?_
    obtain ⟨g57, h⟩ := h
    refine xc_i (va_runV (As := [.int l2, .int l3, .int l6]) (rest := []) ⟨hx, hb, hml, hown, hts⟩ (mtq_X5_last l G base h) (cwV 3 hts gL_areGaps_X5_last rfl rfl rfl (by decide +kernel) ⟨Nat.le_of_ble_eq_true rfl, Nat.le_of_ble_eq_true rfl⟩) (xp_V hbase hh hK hX hS (ci := 5) g57 (by decide) rfl) rfl rfl hl.1 rfl (lv_room (Nat.le_of_ble_eq_true rfl)) dL_areGaps_235 ⟨Nat.le_of_ble_eq_true rfl, Nat.le_of_ble_eq_true rfl⟩) hS (fun r58 m59 H locs h hh hS => ?_)
    refine lv_istore (lv' := [(14, .int r58), (13, .int r26), (12, .int r24), (11, .int s0), (0, .ref l0), (2, .int l2), (3, .int l3), (4, .int l4), (5, .int l5), (6, .int l6), (9, .int l9), (10, .int l10)]) hx hb dL_areGaps_238 hl (by decide) rfl (fun ls hl => ?_)
    refine lv_iload hx hb dL_areGaps_240 (lv_at hl 3 rfl) ?_
    refine lv_if_eq (tgt := 277) hx hb dL_areGaps_242 (by decide) (fun c60 => ?_) (fun c60 => ?_)
    · replace h := h.1 c60
      refine lv_iconst (v := 0) hx hb dL_areGaps_277 (by decide) ?_
      exact (xe_z hx hb hr hlocks hbase hh hK hX hS (Or.inl rfl) h (Nat.le_of_ble_eq_true rfl) (Nat.le_of_ble_eq_true rfl) dL_areGaps_278)
    · replace h := h.2 c60
      refine lv_iload hx hb dL_areGaps_245 (lv_at hl 2 rfl) ?_
      refine lv_iload hx hb dL_areGaps_247 (lv_at hl 0 rfl) ?_
      refine lv_icmp_ne (tgt := 277) hx hb dL_areGaps_249 (by decide) (fun c61 => ?_) (fun c61 => ?_)
      · replace h := h.1 c61
        refine lv_iconst (v := 0) hx hb dL_areGaps_277 (by decide) ?_
        exact (xe_z hx hb hr hlocks hbase hh hK hX hS (Or.inl rfl) h (Nat.le_of_ble_eq_true rfl) (Nat.le_of_ble_eq_true rfl) dL_areGaps_278)
      · replace h := h.2 c61
        refine lv_iload hx hb dL_areGaps_252 (lv_at hl 1 rfl) ?_
        refine lv_iload hx hb dL_areGaps_254 (lv_at hl 0 rfl) ?_
        refine lv_icmp_ne (tgt := 277) hx hb dL_areGaps_256 (by decide) (fun c62 => ?_) (fun c62 => ?_)
        · replace h := h.1 c62
          refine lv_iconst (v := 0) hx hb dL_areGaps_277 (by decide) ?_
          exact (xe_z hx hb hr hlocks hbase hh hK hX hS (Or.inl rfl) h (Nat.le_of_ble_eq_true rfl) (Nat.le_of_ble_eq_true rfl) dL_areGaps_278)
        · replace h := h.2 c62
          refine lv_aload_n hx hb dL_areGaps_259 rfl (lv_at hl 4 rfl) ?_
          refine lv_iload_n hx hb dL_areGaps_260 rfl (lv_at hl 5 rfl) ?_
          refine lv_iload_n hx hb dL_areGaps_261 rfl (lv_at hl 6 rfl) ?_
          refine lv_iload hx hb dL_areGaps_262 (lv_at hl 9 rfl) ?_
          refine lv_iconst (v := 0) hx hb dL_areGaps_264 (by decide) ?_
          refine xt_i (vx_runSX (As := [.ref l0, .int l2, .int l3, .int l6, .int (0 : Int32)]) (rest := []) ⟨hx, hb, hml, hown, hts⟩ (mt_L_filled l hl9 G base h) (vx_cwSW 5 hts gL_areGaps_L_filled rfl rfl rfl (by decide +kernel) ⟨Nat.le_of_ble_eq_true rfl, Nat.le_of_ble_eq_true rfl⟩) (xp_S hbase hh hK hX hS) rfl rfl hl.1 rfl (lv_room (Nat.le_of_ble_eq_true rfl)) dL_areGaps_265 ⟨Nat.le_of_ble_eq_true rfl, Nat.le_of_ble_eq_true rfl⟩) hS (fun k9 m9 H locs q9 ce h hh hS hc9 hv9 hcl9 => h.elim) (fun r63 m64 H locs h hh hS => ?_)
          refine lv_iload hx hb dL_areGaps_268 (lv_at hl 0 rfl) ?_
          refine lv_icmp_ne (tgt := 277) hx hb dL_areGaps_270 (by decide) (fun c65 => ?_) (fun c65 => ?_)
          · replace h := h.1 c65
            refine lv_iconst (v := 0) hx hb dL_areGaps_277 (by decide) ?_
            exact (xe_z hx hb hr hlocks hbase hh hK hX hS (Or.inl rfl) h (Nat.le_of_ble_eq_true rfl) (Nat.le_of_ble_eq_true rfl) dL_areGaps_278)
          · replace h := h.2 c65
            refine lv_iconst (v := 1) hx hb dL_areGaps_273 (by decide) ?_
            refine lv_goto (tgt := 278) hx hb dL_areGaps_274 (by decide) ?_
            exact (xe_z hx hb hr hlocks hbase hh hK hX hS (Or.inr rfl) h (Nat.le_of_ble_eq_true rfl) (Nat.le_of_ble_eq_true rfl) dL_areGaps_278)

set_option maxHeartbeats 4000000 in
set_option maxRecDepth 100000 in
theorem bk_L_areGaps_140 {p : Program} {l : Launch} {e : Env} {s : State} {m : MethodId} {args : Array Value} {below : List Frame} {meth : Method} {c : Code} {G : GG} {base : Nat} (C0 : BC p s m args meth c G base RL cL_areGaps 16 (some .boolean) wsL_areGaps) (hl9 : l.stackTraces = false) {Q : Int32 → MM → Prop} {K : Nat → Int32 → Int32 → Int32 → Int32 → Int32 → Int32 → Int32 → Int32 → Int32 → Int32 → MM → Prop} (hK9 : ∀ (l0 : Nat) (l2 : Int32) (l3 : Int32) (l4 : Int32) (l5 : Int32) (l6 : Int32) (l7 : Int32) (l8 : Int32) (l9 : Int32) (l10 : Int32) (l11 : Int32) (m0 : MM) (H : Heap) (locs : List Loc) (ls : Array Slot), K l0 l2 l3 l4 l5 l6 l7 l8 l9 l10 l11 m0 → hp G (xA base) m0 H → va_S (xA base) s.heap H locs → lv_has ls 16 [(0, .ref l0), (2, .int l2), (3, .int l3), (4, .int l4), (5, .int l5), (6, .int l6), (7, .int l7), (8, .int l8), (9, .int l9), (10, .int l10), (11, .int l11)] → W p l e ({ frames := 11, cells := 15, slots := 90, locals := 212 } : Room) s m args below meth c H locs 0 0 (MQ below (va_Qi Q (HB G base) (xA base)) args s 15 90 (xA base)) (F0 m 105 ls [])) : ∀ (l0 : Nat) (l2 : Int32) (l3 : Int32) (l4 : Int32) (l5 : Int32) (l6 : Int32) (l7 : Int32) (l8 : Int32) (l10 : Int32) (l11 : Int32) (l12 : Int32) (s0 : Int32) (m0 : MM) (H : Heap) (locs : List Loc) (ls : Array Slot), wp_L_areGaps_140 Q K l0 l2 l3 l4 l5 l6 l7 l8 l10 l11 l12 s0 m0 → hp G (xA base) m0 H → va_S (xA base) s.heap H locs → lv_has ls 16 [(0, .ref l0), (2, .int l2), (3, .int l3), (4, .int l4), (5, .int l5), (6, .int l6), (7, .int l7), (8, .int l8), (10, .int l10), (11, .int l11), (12, .int l12)] → W p l e ({ frames := 11, cells := 15, slots := 90, locals := 212 } : Room) s m args below meth c H locs 0 0 (MQ below (va_Qi Q (HB G base) (xA base)) args s 15 90 (xA base)) (F0 m 140 ls [.int s0]) := by
  obtain ⟨hx, hb, hr, hml, hown, hts, hlocks, hK, hbase, hX⟩ := id C0
  intro l0 l2 l3 l4 l5 l6 l7 l8 l10 l11 l12 s0 m0 H locs ls h hh hS hl
  unfold wp_L_areGaps_140 at h
  refine lv_istore (lv' := [(9, .int s0), (0, .ref l0), (2, .int l2), (3, .int l3), (4, .int l4), (5, .int l5), (6, .int l6), (7, .int l7), (8, .int l8), (10, .int l10), (11, .int l11), (12, .int l12)]) hx hb dL_areGaps_140 hl (by decide) rfl (fun ls hl => ?_)
  refine lv_iload hx hb dL_areGaps_142 (lv_at hl 11 rfl) ?_
  refine lv_iload hx hb dL_areGaps_144 (lv_at hl 6 rfl) ?_
  refine lv_icmp_le (tgt := 159) hx hb dL_areGaps_146 (by decide) (fun c70 => ?_) (fun c70 => ?_)
  · replace h := h.1 c70
    refine lv_iload hx hb dL_areGaps_159 (lv_at hl 9 rfl) ?_
    refine lv_istore (lv' := [(10, .int l10), (9, .int s0), (0, .ref l0), (2, .int l2), (3, .int l3), (4, .int l4), (5, .int l5), (6, .int l6), (7, .int l7), (8, .int l8), (11, .int l11), (12, .int l12)]) hx hb dL_areGaps_161 hl (by decide) rfl (fun ls hl => ?_)
    obtain ⟨x71, ex71⟩ : ∃ y : Int32, y = l11 + 1 := ⟨_, rfl⟩
    replace h := h x71 ex71
    refine lv_iinc (v := x71) (lv' := [(11, .int x71), (10, .int l10), (9, .int s0), (0, .ref l0), (2, .int l2), (3, .int l3), (4, .int l4), (5, .int l5), (6, .int l6), (7, .int l7), (8, .int l8), (12, .int l12)]) hx hb dL_areGaps_163 hl (k := 10) rfl (by rw [ex71]; rfl) (by decide) rfl (fun ls hl => ?_)
    refine lv_goto (tgt := 105) hx hb dL_areGaps_166 (by decide) ?_
    exact hK9 _ _ _ _ _ _ _ _ _ _ _ _ _ _ _ h hh hS (lv_sub hl [3, 4, 5, 6, 7, 8, 9, 10, 2, 1, 0] rfl)
  · replace h := h.2 c70
    refine lv_iload hx hb dL_areGaps_149 (lv_at hl 9 rfl) ?_
    refine lv_if_ge (tgt := 159) hx hb dL_areGaps_151 (by decide) (fun c72 => ?_) (fun c72 => ?_)
    · replace h := h.1 c72
      refine lv_iload hx hb dL_areGaps_159 (lv_at hl 9 rfl) ?_
      refine lv_istore (lv' := [(10, .int l10), (9, .int s0), (0, .ref l0), (2, .int l2), (3, .int l3), (4, .int l4), (5, .int l5), (6, .int l6), (7, .int l7), (8, .int l8), (11, .int l11), (12, .int l12)]) hx hb dL_areGaps_161 hl (by decide) rfl (fun ls hl => ?_)
      obtain ⟨x73, ex73⟩ : ∃ y : Int32, y = l11 + 1 := ⟨_, rfl⟩
      replace h := h x73 ex73
      refine lv_iinc (v := x73) (lv' := [(11, .int x73), (10, .int l10), (9, .int s0), (0, .ref l0), (2, .int l2), (3, .int l3), (4, .int l4), (5, .int l5), (6, .int l6), (7, .int l7), (8, .int l8), (12, .int l12)]) hx hb dL_areGaps_163 hl (k := 10) rfl (by rw [ex73]; rfl) (by decide) rfl (fun ls hl => ?_)
      refine lv_goto (tgt := 105) hx hb dL_areGaps_166 (by decide) ?_
      exact hK9 _ _ _ _ _ _ _ _ _ _ _ _ _ _ _ h hh hS (lv_sub hl [3, 4, 5, 6, 7, 8, 9, 10, 2, 1, 0] rfl)
    · replace h := h.2 c72
      refine lv_iload hx hb dL_areGaps_154 (lv_at hl 11 rfl) ?_
      refine lv_goto (tgt := 161) hx hb dL_areGaps_156 (by decide) ?_
      refine lv_istore (lv' := [(10, .int l12), (9, .int s0), (0, .ref l0), (2, .int l2), (3, .int l3), (4, .int l4), (5, .int l5), (6, .int l6), (7, .int l7), (8, .int l8), (11, .int l11), (12, .int l12)]) hx hb dL_areGaps_161 hl (by decide) rfl (fun ls hl => ?_)
      obtain ⟨x74, ex74⟩ : ∃ y : Int32, y = l11 + 1 := ⟨_, rfl⟩
      replace h := h x74 ex74
      refine lv_iinc (v := x74) (lv' := [(11, .int x74), (10, .int l12), (9, .int s0), (0, .ref l0), (2, .int l2), (3, .int l3), (4, .int l4), (5, .int l5), (6, .int l6), (7, .int l7), (8, .int l8), (12, .int l12)]) hx hb dL_areGaps_163 hl (k := 10) rfl (by rw [ex74]; rfl) (by decide) rfl (fun ls hl => ?_)
      refine lv_goto (tgt := 105) hx hb dL_areGaps_166 (by decide) ?_
      exact hK9 _ _ _ _ _ _ _ _ _ _ _ _ _ _ _ h hh hS (lv_sub hl [3, 4, 5, 6, 7, 8, 9, 10, 2, 1, 0] rfl)

set_option maxHeartbeats 4000000 in
set_option maxRecDepth 100000 in
theorem bk_L_areGaps_105 {p : Program} {l : Launch} {e : Env} {s : State} {m : MethodId} {args : Array Value} {below : List Frame} {meth : Method} {c : Code} {G : GG} {base : Nat} (C0 : BC p s m args meth c G base RL cL_areGaps 16 (some .boolean) wsL_areGaps) (hl9 : l.stackTraces = false) {Q : Int32 → MM → Prop} : ∀ (n : Nat) (l0 : Nat) (l2 : Int32) (l3 : Int32) (l4 : Int32) (l5 : Int32) (l6 : Int32) (l7 : Int32) (l8 : Int32) (l9 : Int32) (l10 : Int32) (l11 : Int32) (m0 : MM) (H : Heap) (locs : List Loc) (ls : Array Slot), wp_L_areGaps_105 Q n l0 l2 l3 l4 l5 l6 l7 l8 l9 l10 l11 m0 → hp G (xA base) m0 H → va_S (xA base) s.heap H locs → lv_has ls 16 [(0, .ref l0), (2, .int l2), (3, .int l3), (4, .int l4), (5, .int l5), (6, .int l6), (7, .int l7), (8, .int l8), (9, .int l9), (10, .int l10), (11, .int l11)] → W p l e ({ frames := 11, cells := 15, slots := 90, locals := 212 } : Room) s m args below meth c H locs 0 0 (MQ below (va_Qi Q (HB G base) (xA base)) args s 15 90 (xA base)) (F0 m 105 ls []) := by
  obtain ⟨hx, hb, hr, hml, hown, hts, hlocks, hK, hbase, hX⟩ := id C0
  intro n
  induction n with
  | zero =>
    intro l0 l2 l3 l4 l5 l6 l7 l8 l9 l10 l11 m0 H locs ls h
    unfold wp_L_areGaps_105 at h
    exact h.elim
  | succ n ih =>
    intro l0 l2 l3 l4 l5 l6 l7 l8 l9 l10 l11 m0 H locs ls h hh hS hl
    unfold wp_L_areGaps_105 at h
    refine lv_iload hx hb dL_areGaps_105 (lv_at hl 10 rfl) ?_
    refine lv_aload_n hx hb dL_areGaps_107 rfl (lv_at hl 0 rfl) ?_
    refine lv_iload_n hx hb dL_areGaps_108 rfl (lv_at hl 1 rfl) ?_
    refine lv_iload_n hx hb dL_areGaps_109 rfl (lv_at hl 2 rfl) ?_
    obtain ⟨g15, h⟩ := h
    refine xc_i (va_runV (As := [.int l2, .int l3]) (rest := [.int l11]) ⟨hx, hb, hml, hown, hts⟩ (mtq_X5_rows l G base h) (cwV 2 hts gL_areGaps_X5_rows rfl rfl rfl (by decide +kernel) ⟨Nat.le_of_ble_eq_true rfl, Nat.le_of_ble_eq_true rfl⟩) (xp_V hbase hh hK hX hS (ci := 5) g15 (by decide) rfl) rfl rfl hl.1 rfl (lv_room (Nat.le_of_ble_eq_true rfl)) dL_areGaps_110 ⟨Nat.le_of_ble_eq_true rfl, Nat.le_of_ble_eq_true rfl⟩) hS (fun r16 m17 H locs h hh hS => ?_)
    refine lv_icmp_ge (tgt := 169) hx hb dL_areGaps_113 (by decide) (fun c18 => ?_) (fun c18 => ?_)
    · replace h := h.1 c18
      refine lv_aload_n hx hb dL_areGaps_169 rfl (lv_at hl 0 rfl) ?_
      refine lv_iload_n hx hb dL_areGaps_170 rfl (lv_at hl 1 rfl) ?_
      refine lv_iload_n hx hb dL_areGaps_171 rfl (lv_at hl 2 rfl) ?_
      refine lv_iload hx hb dL_areGaps_172 (lv_at hl 5 rfl) ?_
      refine lv_iload hx hb dL_areGaps_174 (lv_at hl 6 rfl) ?_
      obtain ⟨g19, h⟩ := h
      refine xc_i (va_runV (As := [.int l2, .int l3, .int l6, .int l7]) (rest := []) ⟨hx, hb, hml, hown, hts⟩ (mtq_X5_gaps l G base h) (cwV 4 hts gL_areGaps_X5_gaps rfl rfl rfl (by decide +kernel) ⟨Nat.le_of_ble_eq_true rfl, Nat.le_of_ble_eq_true rfl⟩) (xp_V hbase hh hK hX hS (ci := 5) g19 (by decide) rfl) rfl rfl hl.1 rfl (lv_room (Nat.le_of_ble_eq_true rfl)) dL_areGaps_176 ⟨Nat.le_of_ble_eq_true rfl, Nat.le_of_ble_eq_true rfl⟩) hS (fun r20 m21 H locs h hh hS => ?_)
      refine lv_iload hx hb dL_areGaps_179 (lv_at hl 7 rfl) ?_
      refine lv_icmp_ne (tgt := 188) hx hb dL_areGaps_181 (by decide) (fun c22 => ?_) (fun c22 => ?_)
      · replace h := h.1 c22
        refine lv_iconst (v := 0) hx hb dL_areGaps_188 (by decide) ?_
        exact bk_L_areGaps_189 C0 hl9  _ _ _ _ _ _ _ _ _ _ _ _ _ h hh hS (lv_sub hl [0, 1, 2, 3, 4, 5, 8, 9] rfl)
      · replace h := h.2 c22
        refine lv_iconst (v := 1) hx hb dL_areGaps_184 (by decide) ?_
        refine lv_goto (tgt := 189) hx hb dL_areGaps_185 (by decide) ?_
        exact bk_L_areGaps_189 C0 hl9  _ _ _ _ _ _ _ _ _ _ _ _ _ h hh hS (lv_sub hl [0, 1, 2, 3, 4, 5, 8, 9] rfl)
    · replace h := h.2 c18
      refine lv_aload_n hx hb dL_areGaps_116 rfl (lv_at hl 0 rfl) ?_
      refine lv_iload_n hx hb dL_areGaps_117 rfl (lv_at hl 1 rfl) ?_
      refine lv_iload_n hx hb dL_areGaps_118 rfl (lv_at hl 2 rfl) ?_
      refine lv_iload hx hb dL_areGaps_119 (lv_at hl 10 rfl) ?_
      obtain ⟨g66, h⟩ := h
      refine xc_i (va_runV (As := [.int l2, .int l3, .int l11]) (rest := []) ⟨hx, hb, hml, hown, hts⟩ (mtq_X5_timeOf l G base h) (cwV 3 hts gL_areGaps_X5_timeOf rfl rfl rfl (by decide +kernel) ⟨Nat.le_of_ble_eq_true rfl, Nat.le_of_ble_eq_true rfl⟩) (xp_V hbase hh hK hX hS (ci := 5) g66 (by decide) rfl) rfl rfl hl.1 rfl (lv_room (Nat.le_of_ble_eq_true rfl)) dL_areGaps_121 ⟨Nat.le_of_ble_eq_true rfl, Nat.le_of_ble_eq_true rfl⟩) hS (fun r67 m68 H locs h hh hS => ?_)
      refine lv_istore (lv' := [(12, .int r67), (0, .ref l0), (2, .int l2), (3, .int l3), (4, .int l4), (5, .int l5), (6, .int l6), (7, .int l7), (8, .int l8), (9, .int l9), (10, .int l10), (11, .int l11)]) hx hb dL_areGaps_124 hl (by decide) rfl (fun ls hl => ?_)
      refine lv_iload hx hb dL_areGaps_126 (lv_at hl 0 rfl) ?_
      refine lv_iload hx hb dL_areGaps_128 (lv_at hl 6 rfl) ?_
      refine lv_icmp_ge (tgt := 138) hx hb dL_areGaps_130 (by decide) (fun c69 => ?_) (fun c69 => ?_)
      · replace h := h.1 c69
        refine lv_iload hx hb dL_areGaps_138 (lv_at hl 9 rfl) ?_
        exact bk_L_areGaps_140 C0 hl9  (K := wp_L_areGaps_105 Q n) ih _ _ _ _ _ _ _ _ _ _ _ _ _ _ _ _ h hh hS (lv_sub hl [1, 2, 3, 4, 5, 6, 7, 8, 10, 11, 0] rfl)
      · replace h := h.2 c69
        refine lv_iload hx hb dL_areGaps_133 (lv_at hl 0 rfl) ?_
        refine lv_goto (tgt := 140) hx hb dL_areGaps_135 (by decide) ?_
        exact bk_L_areGaps_140 C0 hl9  (K := wp_L_areGaps_105 Q n) ih _ _ _ _ _ _ _ _ _ _ _ _ _ _ _ _ h hh hS (lv_sub hl [1, 2, 3, 4, 5, 6, 7, 8, 10, 11, 0] rfl)

set_option maxHeartbeats 4000000 in
set_option maxRecDepth 100000 in
theorem bk_L_areGaps_83 {p : Program} {l : Launch} {e : Env} {s : State} {m : MethodId} {args : Array Value} {below : List Frame} {meth : Method} {c : Code} {G : GG} {base : Nat} (C0 : BC p s m args meth c G base RL cL_areGaps 16 (some .boolean) wsL_areGaps) (hl9 : l.stackTraces = false) {Q : Int32 → MM → Prop} {K : Nat → Nat → Int32 → Int32 → Int32 → Int32 → Int32 → Int32 → Int32 → Int32 → MM → Prop} (hK9 : ∀ (l0 : Nat) (l1 : Nat) (l2 : Int32) (l3 : Int32) (l4 : Int32) (l5 : Int32) (l6 : Int32) (l7 : Int32) (l8 : Int32) (l9 : Int32) (m0 : MM) (H : Heap) (locs : List Loc) (ls : Array Slot), K l0 l1 l2 l3 l4 l5 l6 l7 l8 l9 m0 → hp G (xA base) m0 H → va_S (xA base) s.heap H locs → lv_has ls 16 [(0, .ref l0), (1, .ref l1), (2, .int l2), (3, .int l3), (4, .int l4), (5, .int l5), (6, .int l6), (7, .int l7), (8, .int l8), (9, .int l9)] → W p l e ({ frames := 11, cells := 15, slots := 90, locals := 212 } : Room) s m args below meth c H locs 0 0 (MQ below (va_Qi Q (HB G base) (xA base)) args s 15 90 (xA base)) (F0 m 47 ls [])) : ∀ (l0 : Nat) (l1 : Nat) (l2 : Int32) (l3 : Int32) (l4 : Int32) (l5 : Int32) (l6 : Int32) (l7 : Int32) (l9 : Int32) (s0 : Int32) (s1 : Int32) (m0 : MM) (H : Heap) (locs : List Loc) (ls : Array Slot), wp_L_areGaps_83 Q K l0 l1 l2 l3 l4 l5 l6 l7 l9 s0 s1 m0 → hp G (xA base) m0 H → va_S (xA base) s.heap H locs → lv_has ls 16 [(0, .ref l0), (1, .ref l1), (2, .int l2), (3, .int l3), (4, .int l4), (5, .int l5), (6, .int l6), (7, .int l7), (9, .int l9)] → W p l e ({ frames := 11, cells := 15, slots := 90, locals := 212 } : Room) s m args below meth c H locs 0 0 (MQ below (va_Qi Q (HB G base) (xA base)) args s 15 90 (xA base)) (F0 m 83 ls [.int s0, .int s1]) := by
  obtain ⟨hx, hb, hr, hml, hown, hts, hlocks, hK, hbase, hX⟩ := id C0
  intro l0 l1 l2 l3 l4 l5 l6 l7 l9 s0 s1 m0 H locs ls h hh hS hl
  unfold wp_L_areGaps_83 at h
  refine lv_iadd hx hb dL_areGaps_83 ?_
  refine lv_topi (fun x78 ex78 => ?_)
  replace h := h x78 ex78
  refine lv_istore (lv' := [(8, .int x78), (0, .ref l0), (1, .ref l1), (2, .int l2), (3, .int l3), (4, .int l4), (5, .int l5), (6, .int l6), (7, .int l7), (9, .int l9)]) hx hb dL_areGaps_84 hl (by decide) rfl (fun ls hl => ?_)
  refine lv_iload hx hb dL_areGaps_86 (lv_at hl 9 rfl) ?_
  refine lv_iload hx hb dL_areGaps_88 (lv_at hl 6 rfl) ?_
  refine lv_iadd hx hb dL_areGaps_90 ?_
  refine lv_topi (fun x79 ex79 => ?_)
  replace h := h x79 ex79
  refine lv_istore (lv' := [(9, .int x79), (8, .int x78), (0, .ref l0), (1, .ref l1), (2, .int l2), (3, .int l3), (4, .int l4), (5, .int l5), (6, .int l6), (7, .int l7)]) hx hb dL_areGaps_91 hl (by decide) rfl (fun ls hl => ?_)
  refine lv_goto (tgt := 47) hx hb dL_areGaps_93 (by decide) ?_
  exact hK9 _ _ _ _ _ _ _ _ _ _ _ _ _ _ h hh hS (lv_sub hl [2, 3, 4, 5, 6, 7, 8, 9, 1, 0] rfl)

set_option maxHeartbeats 4000000 in
set_option maxRecDepth 100000 in
theorem bk_L_areGaps_82 {p : Program} {l : Launch} {e : Env} {s : State} {m : MethodId} {args : Array Value} {below : List Frame} {meth : Method} {c : Code} {G : GG} {base : Nat} (C0 : BC p s m args meth c G base RL cL_areGaps 16 (some .boolean) wsL_areGaps) (hl9 : l.stackTraces = false) {Q : Int32 → MM → Prop} {K : Nat → Nat → Int32 → Int32 → Int32 → Int32 → Int32 → Int32 → Int32 → Int32 → MM → Prop} (hK9 : ∀ (l0 : Nat) (l1 : Nat) (l2 : Int32) (l3 : Int32) (l4 : Int32) (l5 : Int32) (l6 : Int32) (l7 : Int32) (l8 : Int32) (l9 : Int32) (m0 : MM) (H : Heap) (locs : List Loc) (ls : Array Slot), K l0 l1 l2 l3 l4 l5 l6 l7 l8 l9 m0 → hp G (xA base) m0 H → va_S (xA base) s.heap H locs → lv_has ls 16 [(0, .ref l0), (1, .ref l1), (2, .int l2), (3, .int l3), (4, .int l4), (5, .int l5), (6, .int l6), (7, .int l7), (8, .int l8), (9, .int l9)] → W p l e ({ frames := 11, cells := 15, slots := 90, locals := 212 } : Room) s m args below meth c H locs 0 0 (MQ below (va_Qi Q (HB G base) (xA base)) args s 15 90 (xA base)) (F0 m 47 ls [])) : ∀ (l0 : Nat) (l1 : Nat) (l2 : Int32) (l3 : Int32) (l4 : Int32) (l5 : Int32) (l6 : Int32) (l7 : Int32) (l9 : Int32) (s0 : Int32) (m0 : MM) (H : Heap) (locs : List Loc) (ls : Array Slot), wp_L_areGaps_82 Q K l0 l1 l2 l3 l4 l5 l6 l7 l9 s0 m0 → hp G (xA base) m0 H → va_S (xA base) s.heap H locs → lv_has ls 16 [(0, .ref l0), (1, .ref l1), (2, .int l2), (3, .int l3), (4, .int l4), (5, .int l5), (6, .int l6), (7, .int l7), (9, .int l9)] → W p l e ({ frames := 11, cells := 15, slots := 90, locals := 212 } : Room) s m args below meth c H locs 0 0 (MQ below (va_Qi Q (HB G base) (xA base)) args s 15 90 (xA base)) (F0 m 82 ls [.int s0]) := by
  obtain ⟨hx, hb, hr, hml, hown, hts, hlocks, hK, hbase, hX⟩ := id C0
  intro l0 l1 l2 l3 l4 l5 l6 l7 l9 s0 m0 H locs ls h hh hS hl
  unfold wp_L_areGaps_82 at h
  refine lv_iconst (v := 0) hx hb dL_areGaps_82 (by decide) ?_
  exact bk_L_areGaps_83 C0 hl9  (K := K) hK9 _ _ _ _ _ _ _ _ _ _ _ _ _ _ _ h hh hS (lv_sub hl [0, 1, 2, 3, 4, 5, 6, 7, 8] rfl)

set_option maxHeartbeats 4000000 in
set_option maxRecDepth 100000 in
theorem bk_L_areGaps_47 {p : Program} {l : Launch} {e : Env} {s : State} {m : MethodId} {args : Array Value} {below : List Frame} {meth : Method} {c : Code} {G : GG} {base : Nat} (C0 : BC p s m args meth c G base RL cL_areGaps 16 (some .boolean) wsL_areGaps) (hl9 : l.stackTraces = false) {Q : Int32 → MM → Prop} : ∀ (n : Nat) (l0 : Nat) (l1 : Nat) (l2 : Int32) (l3 : Int32) (l4 : Int32) (l5 : Int32) (l6 : Int32) (l7 : Int32) (l8 : Int32) (l9 : Int32) (m0 : MM) (H : Heap) (locs : List Loc) (ls : Array Slot), wp_L_areGaps_47 Q n l0 l1 l2 l3 l4 l5 l6 l7 l8 l9 m0 → hp G (xA base) m0 H → va_S (xA base) s.heap H locs → lv_has ls 16 [(0, .ref l0), (1, .ref l1), (2, .int l2), (3, .int l3), (4, .int l4), (5, .int l5), (6, .int l6), (7, .int l7), (8, .int l8), (9, .int l9)] → W p l e ({ frames := 11, cells := 15, slots := 90, locals := 212 } : Room) s m args below meth c H locs 0 0 (MQ below (va_Qi Q (HB G base) (xA base)) args s 15 90 (xA base)) (F0 m 47 ls []) := by
  obtain ⟨hx, hb, hr, hml, hown, hts, hlocks, hK, hbase, hX⟩ := id C0
  intro n
  induction n with
  | zero =>
    intro l0 l1 l2 l3 l4 l5 l6 l7 l8 l9 m0 H locs ls h
    unfold wp_L_areGaps_47 at h
    exact h.elim
  | succ n ih =>
    intro l0 l1 l2 l3 l4 l5 l6 l7 l8 l9 m0 H locs ls h hh hS hl
    unfold wp_L_areGaps_47 at h
    refine lv_iload hx hb dL_areGaps_47 (lv_at hl 9 rfl) ?_
    refine lv_iload hx hb dL_areGaps_49 (lv_at hl 7 rfl) ?_
    refine lv_icmp_ge (tgt := 96) hx hb dL_areGaps_51 (by decide) (fun c11 => ?_) (fun c11 => ?_)
    · replace h := h.1 c11
      refine lv_iconst (v := -1) hx hb dL_areGaps_96 (by decide) ?_
      refine lv_topi (fun x12 ex12 => ?_)
      replace h := h x12 ex12
      refine lv_istore (lv' := [(9, .int x12), (0, .ref l0), (1, .ref l1), (2, .int l2), (3, .int l3), (4, .int l4), (5, .int l5), (6, .int l6), (7, .int l7), (8, .int l8)]) hx hb dL_areGaps_97 hl (by decide) rfl (fun ls hl => ?_)
      refine lv_iconst (v := -1) hx hb dL_areGaps_99 (by decide) ?_
      refine lv_topi (fun x13 ex13 => ?_)
      replace h := h x13 ex13
      refine lv_istore (lv' := [(10, .int x13), (9, .int x12), (0, .ref l0), (1, .ref l1), (2, .int l2), (3, .int l3), (4, .int l4), (5, .int l5), (6, .int l6), (7, .int l7), (8, .int l8)]) hx hb dL_areGaps_100 hl (by decide) rfl (fun ls hl => ?_)
      refine lv_iconst (v := 0) hx hb dL_areGaps_102 (by decide) ?_
      refine lv_topi (fun x14 ex14 => ?_)
      replace h := h x14 ex14
      refine lv_istore (lv' := [(11, .int x14), (10, .int x13), (9, .int x12), (0, .ref l0), (1, .ref l1), (2, .int l2), (3, .int l3), (4, .int l4), (5, .int l5), (6, .int l6), (7, .int l7), (8, .int l8)]) hx hb dL_areGaps_103 hl (by decide) rfl (fun ls hl => ?_)
      obtain ⟨n9, h⟩ := h
      exact bk_L_areGaps_105 C0 hl9  n9 _ _ _ _ _ _ _ _ _ _ _ _ _ _ _ h hh hS (lv_sub hl [3, 5, 6, 7, 8, 9, 10, 11, 2, 1, 0] rfl)
    · replace h := h.2 c11
      refine lv_iload hx hb dL_areGaps_54 (lv_at hl 8 rfl) ?_
      refine lv_aload_n hx hb dL_areGaps_56 rfl (lv_at hl 1 rfl) ?_
      refine lv_iload_n hx hb dL_areGaps_57 rfl (lv_at hl 3 rfl) ?_
      refine lv_iload hx hb dL_areGaps_58 (lv_at hl 9 rfl) ?_
      refine lv_i2l hx hb dL_areGaps_60 rfl ?_
      refine xc_i (va_runS (As := [.ref l1, .int l3, .long l9.toInt64]) (rest := [.int l8]) ⟨hx, hb, hml, hown, hts⟩ (mt_L_isGone l hl9 G base h) (va_cwS 3 hts gL_areGaps_L_isGone rfl rfl rfl (by decide +kernel) ⟨Nat.le_of_ble_eq_true rfl, Nat.le_of_ble_eq_true rfl⟩) (xp_S hbase hh hK hX hS) rfl rfl hl.1 rfl (lv_room (Nat.le_of_ble_eq_true rfl)) dL_areGaps_61 ⟨Nat.le_of_ble_eq_true rfl, Nat.le_of_ble_eq_true rfl⟩) hS (fun r75 m76 H locs h hh hS => ?_)
      refine lv_if_ne (tgt := 82) hx hb dL_areGaps_64 (by decide) (fun c77 => ?_) (fun c77 => ?_)
      · replace h := h.1 c77
        exact bk_L_areGaps_82 C0 hl9  (K := wp_L_areGaps_47 Q n) ih _ _ _ _ _ _ _ _ _ _ _ _ _ _ h hh hS (lv_sub hl [0, 1, 2, 3, 4, 5, 6, 7, 9] rfl)
      · replace h := h.2 c77
        refine lv_aload_n hx hb dL_areGaps_67 rfl (lv_at hl 0 rfl) ?_
        refine lv_iload_n hx hb dL_areGaps_68 rfl (lv_at hl 2 rfl) ?_
        refine lv_iload_n hx hb dL_areGaps_69 rfl (lv_at hl 3 rfl) ?_
        refine lv_iload hx hb dL_areGaps_70 (lv_at hl 9 rfl) ?_
        obtain ⟨g80, h⟩ := h
        refine xc_i (va_runV (As := [.int l2, .int l3, .int l9]) (rest := [.int l8]) ⟨hx, hb, hml, hown, hts⟩ (mtq_X5_hasRollup l G base h) (cwV 3 hts gL_areGaps_X5_hasRollup rfl rfl rfl (by decide +kernel) ⟨Nat.le_of_ble_eq_true rfl, Nat.le_of_ble_eq_true rfl⟩) (xp_V hbase hh hK hX hS (ci := 5) g80 (by decide) rfl) rfl rfl hl.1 rfl (lv_room (Nat.le_of_ble_eq_true rfl)) dL_areGaps_72 ⟨Nat.le_of_ble_eq_true rfl, Nat.le_of_ble_eq_true rfl⟩) hS (fun r81 m82 H locs h hh hS => ?_)
        refine lv_if_ne (tgt := 82) hx hb dL_areGaps_75 (by decide) (fun c83 => ?_) (fun c83 => ?_)
        · replace h := h.1 c83
          exact bk_L_areGaps_82 C0 hl9  (K := wp_L_areGaps_47 Q n) ih _ _ _ _ _ _ _ _ _ _ _ _ _ _ h hh hS (lv_sub hl [0, 1, 2, 3, 4, 5, 6, 7, 9] rfl)
        · replace h := h.2 c83
          refine lv_iconst (v := 1) hx hb dL_areGaps_78 (by decide) ?_
          refine lv_goto (tgt := 83) hx hb dL_areGaps_79 (by decide) ?_
          exact bk_L_areGaps_83 C0 hl9  (K := wp_L_areGaps_47 Q n) ih _ _ _ _ _ _ _ _ _ _ _ _ _ _ _ h hh hS (lv_sub hl [0, 1, 2, 3, 4, 5, 6, 7, 9] rfl)

set_option maxHeartbeats 4000000 in
set_option maxRecDepth 100000 in
theorem mt_L_areGaps (l : Launch) (hl9 : l.stackTraces = false) (G : GG) (base : Nat) {p1 : Nat} {p2 : Nat} {p3 : Int32} {p4 : Int32} {p5 : Int32} {m0 : MM} {Q : Int32 → MM → Prop} (h : wp_L_areGaps p1 p2 p3 p4 p5 m0 Q) : Met l yL_areGaps wsL_areGaps ({ frames := 11, cells := 15, slots := 90, locals := 212 }) (va_Pc [.ref p1, .ref p2, .int p3, .int p4, .int p5] (SP G base m0)) (va_Qi Q (HB G base) (xA base)) 15 90 (xA base) := by
  refine Met.ofW (cc := cL_areGaps) (maxL := 16) (ret := (some .boolean)) (by decide) rfl ?_
  intro p e s m args below meth c s₁ B hml hv
  obtain ⟨rfl, hbase, hh, hK, hX⟩ := hv
  have C0 : BC p s m _ meth c G base RL cL_areGaps 16 (some .boolean) wsL_areGaps := ⟨B.exec, B.bytes, B.returns, hml, findClass_of_methodNamed B.named, atoms_spec (ws := wsL_areGaps) B.pre, B.notSynchronized, hK, hbase, hX⟩
  obtain ⟨hx, hb, hr, -, hown, hts, hlocks, -, -, -⟩ := id C0
  have hS : va_S (xA base) s.heap s.heap [] := va_S.rf
  have hl := lv_entry ([.ref p1, .ref p2, .int p3, .int p4, .int p5]) (n := 16) (Nat.le_of_ble_eq_true rfl)
  rw [lg_entry_eq]
  generalize (lg_sl ([.ref p1, .ref p2, .int p3, .int p4, .int p5]) ++ List.replicate (16 - (lg_sl ([.ref p1, .ref p2, .int p3, .int p4, .int p5])).length) Slot.unset).toArray = ls at hl ⊢
  have hl : lv_has ls 16 [(0, .ref p1), (1, .ref p2), (2, .int p3), (3, .int p4), (4, .int p5)] := hl
  unfold wp_L_areGaps at h
  refine lv_iload_n hx hb dL_areGaps_0 rfl (lv_at hl 3 rfl) ?_
  refine xc_i (va_runS (As := [.int p4]) (rest := []) ⟨hx, hb, hml, hown, hts⟩ (mt_L_length l hl9 G base h) (va_cwS 1 hts gL_areGaps_L_length rfl rfl rfl (by decide +kernel) ⟨Nat.le_of_ble_eq_true rfl, Nat.le_of_ble_eq_true rfl⟩) (xp_S hbase hh hK hX hS) rfl rfl hl.1 rfl (lv_room (Nat.le_of_ble_eq_true rfl)) dL_areGaps_1 ⟨Nat.le_of_ble_eq_true rfl, Nat.le_of_ble_eq_true rfl⟩) hS (fun r1 m2 H locs h hh hS => ?_)
  refine lv_istore (lv' := [(5, .int r1), (0, .ref p1), (1, .ref p2), (2, .int p3), (3, .int p4), (4, .int p5)]) hx hb dL_areGaps_4 hl (by decide) rfl (fun ls hl => ?_)
  refine lv_iload hx hb dL_areGaps_6 (lv_at hl 5 rfl) ?_
  refine lv_aload_n hx hb dL_areGaps_8 rfl (lv_at hl 1 rfl) ?_
  obtain ⟨g3, h⟩ := h
  refine xc_i (va_runV (As := []) (rest := [.int p5]) ⟨hx, hb, hml, hown, hts⟩ (mt_X5_clock l G base h) (cwV 0 hts gL_areGaps_X5_clock rfl rfl rfl (by decide +kernel) ⟨Nat.le_of_ble_eq_true rfl, Nat.le_of_ble_eq_true rfl⟩) (xp_V hbase hh hK hX hS (ci := 5) g3 (by decide) rfl) rfl rfl hl.1 rfl (lv_room (Nat.le_of_ble_eq_true rfl)) dL_areGaps_9 ⟨Nat.le_of_ble_eq_true rfl, Nat.le_of_ble_eq_true rfl⟩) hS (fun r4 m5 H locs h hh hS => ?_)
  refine lv_iload hx hb dL_areGaps_12 (lv_at hl 0 rfl) ?_
  obtain ⟨g6, h⟩ := h
  refine lv_idiv hx hb dL_areGaps_14 g6 ?_
  refine lv_iconst (v := 2) hx hb dL_areGaps_15 (by decide) ?_
  refine lv_iadd hx hb dL_areGaps_16 ?_
  obtain ⟨g7, h⟩ := h
  refine lv_irem hx hb dL_areGaps_17 g7 ?_
  refine lv_iload hx hb dL_areGaps_18 (lv_at hl 0 rfl) ?_
  refine lv_imul hx hb dL_areGaps_20 ?_
  refine lv_topi (fun x8 ex8 => ?_)
  replace h := h x8 ex8
  refine lv_istore (lv' := [(6, .int x8), (5, .int r1), (0, .ref p1), (1, .ref p2), (2, .int p3), (3, .int p4), (4, .int p5)]) hx hb dL_areGaps_21 hl (by decide) rfl (fun ls hl => ?_)
  refine lv_iload hx hb dL_areGaps_23 (lv_at hl 0 rfl) ?_
  refine lv_iload hx hb dL_areGaps_25 (lv_at hl 6 rfl) ?_
  refine lv_sipush (v := 1000) hx hb dL_areGaps_27 (by decide) ?_
  refine lv_idiv hx hb dL_areGaps_30 (by decide) ?_
  refine lv_bipush (v := 50) hx hb dL_areGaps_31 (by decide) ?_
  refine lv_irem hx hb dL_areGaps_33 (by decide) ?_
  refine lv_iload hx hb dL_areGaps_34 (lv_at hl 1 rfl) ?_
  refine lv_imul hx hb dL_areGaps_36 ?_
  refine lv_iadd hx hb dL_areGaps_37 ?_
  refine lv_topi (fun x9 ex9 => ?_)
  replace h := h x9 ex9
  refine lv_istore (lv' := [(7, .int x9), (6, .int x8), (5, .int r1), (0, .ref p1), (1, .ref p2), (2, .int p3), (3, .int p4), (4, .int p5)]) hx hb dL_areGaps_38 hl (by decide) rfl (fun ls hl => ?_)
  refine lv_iconst (v := 0) hx hb dL_areGaps_40 (by decide) ?_
  refine lv_topi (fun x10 ex10 => ?_)
  replace h := h x10 ex10
  refine lv_istore (lv' := [(8, .int x10), (7, .int x9), (6, .int x8), (5, .int r1), (0, .ref p1), (1, .ref p2), (2, .int p3), (3, .int p4), (4, .int p5)]) hx hb dL_areGaps_41 hl (by decide) rfl (fun ls hl => ?_)
  refine lv_iload hx hb dL_areGaps_43 (lv_at hl 2 rfl) ?_
  refine lv_istore (lv' := [(9, .int x8), (8, .int x10), (7, .int x9), (6, .int x8), (5, .int r1), (0, .ref p1), (1, .ref p2), (2, .int p3), (3, .int p4), (4, .int p5)]) hx hb dL_areGaps_45 hl (by decide) rfl (fun ls hl => ?_)
  obtain ⟨n9, h⟩ := h
  exact bk_L_areGaps_47 C0 hl9  n9 _ _ _ _ _ _ _ _ _ _ _ _ _ _ h hh hS (lv_sub hl [5, 6, 7, 8, 9, 4, 3, 2, 1, 0] rfl)

set_option maxHeartbeats 4000000 in
set_option maxRecDepth 100000 in
theorem bk_L_areRows_58 {p : Program} {l : Launch} {e : Env} {s : State} {m : MethodId} {args : Array Value} {below : List Frame} {meth : Method} {c : Code} {G : GG} {base : Nat} (C0 : BC p s m args meth c G base RL cL_areRows 8 (some .boolean) wsL_areRows) (hl9 : l.stackTraces = false) {Q : Int32 → MM → Prop} {K : Nat → Nat → Int32 → Int32 → Int32 → MM → Prop} (hK9 : ∀ (l0 : Nat) (l1 : Nat) (l2 : Int32) (l3 : Int32) (l4 : Int32) (m0 : MM) (H : Heap) (locs : List Loc) (ls : Array Slot), K l0 l1 l2 l3 l4 m0 → hp G (xA base) m0 H → va_S (xA base) s.heap H locs → lv_has ls 8 [(0, .ref l0), (1, .ref l1), (2, .int l2), (3, .int l3), (4, .int l4)] → W p l e ({ frames := 10, cells := 0, slots := 0, locals := 188 } : Room) s m args below meth c H locs 0 0 (MQ below (va_Qi Q (HB G base) (xA base)) args s 0 0 (xA base)) (F0 m 20 ls [])) : ∀ (n : Nat) (l0 : Nat) (l1 : Nat) (l2 : Int32) (l3 : Int32) (l4 : Int32) (l5 : Int32) (l6 : Int32) (m0 : MM) (H : Heap) (locs : List Loc) (ls : Array Slot), wp_L_areRows_58 Q K n l0 l1 l2 l3 l4 l5 l6 m0 → hp G (xA base) m0 H → va_S (xA base) s.heap H locs → lv_has ls 8 [(0, .ref l0), (1, .ref l1), (2, .int l2), (3, .int l3), (4, .int l4), (5, .int l5), (6, .int l6)] → W p l e ({ frames := 10, cells := 0, slots := 0, locals := 188 } : Room) s m args below meth c H locs 0 0 (MQ below (va_Qi Q (HB G base) (xA base)) args s 0 0 (xA base)) (F0 m 58 ls []) := by
  obtain ⟨hx, hb, hr, hml, hown, hts, hlocks, hK, hbase, hX⟩ := id C0
  intro n
  induction n with
  | zero =>
    intro l0 l1 l2 l3 l4 l5 l6 m0 H locs ls h
    unfold wp_L_areRows_58 at h
    exact h.elim
  | succ n ih =>
    intro l0 l1 l2 l3 l4 l5 l6 m0 H locs ls h hh hS hl
    unfold wp_L_areRows_58 at h
    refine lv_iload hx hb dL_areRows_58 (lv_at hl 6 rfl) ?_
    refine lv_aload_n hx hb dL_areRows_60 rfl (lv_at hl 0 rfl) ?_
    refine lv_iload_n hx hb dL_areRows_61 rfl (lv_at hl 2 rfl) ?_
    refine lv_iload hx hb dL_areRows_62 (lv_at hl 4 rfl) ?_
    obtain ⟨g12, h⟩ := h
    refine xc_i (va_runV (As := [.int l2, .int l4]) (rest := [.int l6]) ⟨hx, hb, hml, hown, hts⟩ (mtq_X5_rows l G base h) (cwV 2 hts gL_areRows_X5_rows rfl rfl rfl (by decide +kernel) ⟨Nat.le_of_ble_eq_true rfl, Nat.le_of_ble_eq_true rfl⟩) (xp_V hbase hh hK hX hS (ci := 5) g12 (by decide) rfl) rfl rfl hl.1 rfl (lv_room (Nat.le_of_ble_eq_true rfl)) dL_areRows_64 ⟨Nat.le_of_ble_eq_true rfl, Nat.le_of_ble_eq_true rfl⟩) hS (fun r13 m14 H locs h hh hS => ?_)
    refine lv_icmp_ge (tgt := 177) hx hb dL_areRows_67 (by decide) (fun c15 => ?_) (fun c15 => ?_)
    · replace h := h.1 c15
      obtain ⟨x16, ex16⟩ : ∃ y : Int32, y = l4 + 1 := ⟨_, rfl⟩
      replace h := h x16 ex16
      refine lv_iinc (v := x16) (lv' := [(4, .int x16), (0, .ref l0), (1, .ref l1), (2, .int l2), (3, .int l3), (5, .int l5), (6, .int l6)]) hx hb dL_areRows_177 hl (k := 4) rfl (by rw [ex16]; rfl) (by decide) rfl (fun ls hl => ?_)
      refine lv_goto (tgt := 20) hx hb dL_areRows_180 (by decide) ?_
      exact hK9 _ _ _ _ _ _ _ _ _ h hh hS (lv_sub hl [1, 2, 3, 4, 0] rfl)
    · replace h := h.2 c15
      refine lv_iload_n hx hb dL_areRows_70 rfl (lv_at hl 3 rfl) ?_
      refine lv_if_eq (tgt := 177) hx hb dL_areRows_71 (by decide) (fun c17 => ?_) (fun c17 => ?_)
      · replace h := h.1 c17
        obtain ⟨x18, ex18⟩ : ∃ y : Int32, y = l4 + 1 := ⟨_, rfl⟩
        replace h := h x18 ex18
        refine lv_iinc (v := x18) (lv' := [(4, .int x18), (0, .ref l0), (1, .ref l1), (2, .int l2), (3, .int l3), (5, .int l5), (6, .int l6)]) hx hb dL_areRows_177 hl (k := 4) rfl (by rw [ex18]; rfl) (by decide) rfl (fun ls hl => ?_)
        refine lv_goto (tgt := 20) hx hb dL_areRows_180 (by decide) ?_
        exact hK9 _ _ _ _ _ _ _ _ _ h hh hS (lv_sub hl [1, 2, 3, 4, 0] rfl)
      · replace h := h.2 c17
        refine lv_aload_n hx hb dL_areRows_74 rfl (lv_at hl 0 rfl) ?_
        refine lv_iload_n hx hb dL_areRows_75 rfl (lv_at hl 2 rfl) ?_
        refine lv_iload hx hb dL_areRows_76 (lv_at hl 4 rfl) ?_
        refine lv_iload hx hb dL_areRows_78 (lv_at hl 6 rfl) ?_
        obtain ⟨g19, h⟩ := h
        refine xc_i (va_runV (As := [.int l2, .int l4, .int l6]) (rest := []) ⟨hx, hb, hml, hown, hts⟩ (mtq_X5_timeOf l G base h) (cwV 3 hts gL_areRows_X5_timeOf rfl rfl rfl (by decide +kernel) ⟨Nat.le_of_ble_eq_true rfl, Nat.le_of_ble_eq_true rfl⟩) (xp_V hbase hh hK hX hS (ci := 5) g19 (by decide) rfl) rfl rfl hl.1 rfl (lv_room (Nat.le_of_ble_eq_true rfl)) dL_areRows_80 ⟨Nat.le_of_ble_eq_true rfl, Nat.le_of_ble_eq_true rfl⟩) hS (fun r20 m21 H locs h hh hS => ?_)
        refine lv_istore (lv' := [(7, .int r20), (0, .ref l0), (1, .ref l1), (2, .int l2), (3, .int l3), (4, .int l4), (5, .int l5), (6, .int l6)]) hx hb dL_areRows_83 hl (by decide) rfl (fun ls hl => ?_)
        refine lv_iload hx hb dL_areRows_85 (lv_at hl 0 rfl) ?_
        refine lv_iload hx hb dL_areRows_87 (lv_at hl 6 rfl) ?_
        refine lv_icmp_le (tgt := 165) hx hb dL_areRows_89 (by decide) (fun c22 => ?_) (fun c22 => ?_)
        · replace h := h.1 c22
          refine lv_iconst (v := 0) hx hb dL_areRows_165 (by decide) ?_
          refine lv_topi (fun x23 ex23 => ?_)
          replace h := h x23 ex23
          refine lv_istore_n (lv' := [(3, .int x23), (7, .int r20), (0, .ref l0), (1, .ref l1), (2, .int l2), (4, .int l4), (5, .int l5), (6, .int l6)]) hx hb dL_areRows_166 rfl hl (by decide) rfl (fun ls hl => ?_)
          refine lv_iload hx hb dL_areRows_167 (lv_at hl 1 rfl) ?_
          refine lv_istore (lv' := [(5, .int r20), (3, .int x23), (7, .int r20), (0, .ref l0), (1, .ref l1), (2, .int l2), (4, .int l4), (6, .int l6)]) hx hb dL_areRows_169 hl (by decide) rfl (fun ls hl => ?_)
          obtain ⟨x24, ex24⟩ : ∃ y : Int32, y = l6 + 1 := ⟨_, rfl⟩
          replace h := h x24 ex24
          refine lv_iinc (v := x24) (lv' := [(6, .int x24), (5, .int r20), (3, .int x23), (7, .int r20), (0, .ref l0), (1, .ref l1), (2, .int l2), (4, .int l4)]) hx hb dL_areRows_171 hl (k := 7) rfl (by rw [ex24]; rfl) (by decide) rfl (fun ls hl => ?_)
          refine lv_goto (tgt := 58) hx hb dL_areRows_174 (by decide) ?_
          exact ih _ _ _ _ _ _ _ _ _ _ _ h hh hS (lv_sub hl [4, 5, 6, 2, 7, 1, 0] rfl)
        · replace h := h.2 c22
          refine lv_iload hx hb dL_areRows_92 (lv_at hl 0 rfl) ?_
          refine lv_iload hx hb dL_areRows_94 (lv_at hl 5 rfl) ?_
          refine xc_i (va_runS (As := [.int l4]) (rest := [.int r20]) ⟨hx, hb, hml, hown, hts⟩ (mt_L_length l hl9 G base h) (va_cwS 1 hts gL_areRows_L_length rfl rfl rfl (by decide +kernel) ⟨Nat.le_of_ble_eq_true rfl, Nat.le_of_ble_eq_true rfl⟩) (xp_S hbase hh hK hX hS) rfl rfl hl.1 rfl (lv_room (Nat.le_of_ble_eq_true rfl)) dL_areRows_96 ⟨Nat.le_of_ble_eq_true rfl, Nat.le_of_ble_eq_true rfl⟩) hS (fun r25 m26 H locs h hh hS => ?_)
          obtain ⟨g27, h⟩ := h
          refine lv_irem hx hb dL_areRows_99 g27 ?_
          refine lv_if_ne (tgt := 165) hx hb dL_areRows_100 (by decide) (fun c28 => ?_) (fun c28 => ?_)
          · replace h := h.1 c28
            refine lv_iconst (v := 0) hx hb dL_areRows_165 (by decide) ?_
            refine lv_topi (fun x29 ex29 => ?_)
            replace h := h x29 ex29
            refine lv_istore_n (lv' := [(3, .int x29), (7, .int r20), (0, .ref l0), (1, .ref l1), (2, .int l2), (4, .int l4), (5, .int l5), (6, .int l6)]) hx hb dL_areRows_166 rfl hl (by decide) rfl (fun ls hl => ?_)
            refine lv_iload hx hb dL_areRows_167 (lv_at hl 1 rfl) ?_
            refine lv_istore (lv' := [(5, .int r20), (3, .int x29), (7, .int r20), (0, .ref l0), (1, .ref l1), (2, .int l2), (4, .int l4), (6, .int l6)]) hx hb dL_areRows_169 hl (by decide) rfl (fun ls hl => ?_)
            obtain ⟨x30, ex30⟩ : ∃ y : Int32, y = l6 + 1 := ⟨_, rfl⟩
            replace h := h x30 ex30
            refine lv_iinc (v := x30) (lv' := [(6, .int x30), (5, .int r20), (3, .int x29), (7, .int r20), (0, .ref l0), (1, .ref l1), (2, .int l2), (4, .int l4)]) hx hb dL_areRows_171 hl (k := 7) rfl (by rw [ex30]; rfl) (by decide) rfl (fun ls hl => ?_)
            refine lv_goto (tgt := 58) hx hb dL_areRows_174 (by decide) ?_
            exact ih _ _ _ _ _ _ _ _ _ _ _ h hh hS (lv_sub hl [4, 5, 6, 2, 7, 1, 0] rfl)
          · replace h := h.2 c28
            refine lv_iload hx hb dL_areRows_103 (lv_at hl 0 rfl) ?_
            refine lv_aload_n hx hb dL_areRows_105 rfl (lv_at hl 1 rfl) ?_
            obtain ⟨g31, h⟩ := h
            refine xc_i (va_runV (As := []) (rest := [.int r20]) ⟨hx, hb, hml, hown, hts⟩ (mt_X5_clock l G base h) (cwV 0 hts gL_areRows_X5_clock rfl rfl rfl (by decide +kernel) ⟨Nat.le_of_ble_eq_true rfl, Nat.le_of_ble_eq_true rfl⟩) (xp_V hbase hh hK hX hS (ci := 5) g31 (by decide) rfl) rfl rfl hl.1 rfl (lv_room (Nat.le_of_ble_eq_true rfl)) dL_areRows_106 ⟨Nat.le_of_ble_eq_true rfl, Nat.le_of_ble_eq_true rfl⟩) hS (fun r32 m33 H locs h hh hS => ?_)
            refine lv_icmp_gt (tgt := 165) hx hb dL_areRows_109 (by decide) (fun c34 => ?_) (fun c34 => ?_)
            · replace h := h.1 c34
              refine lv_iconst (v := 0) hx hb dL_areRows_165 (by decide) ?_
              refine lv_topi (fun x35 ex35 => ?_)
              replace h := h x35 ex35
              refine lv_istore_n (lv' := [(3, .int x35), (7, .int r20), (0, .ref l0), (1, .ref l1), (2, .int l2), (4, .int l4), (5, .int l5), (6, .int l6)]) hx hb dL_areRows_166 rfl hl (by decide) rfl (fun ls hl => ?_)
              refine lv_iload hx hb dL_areRows_167 (lv_at hl 1 rfl) ?_
              refine lv_istore (lv' := [(5, .int r20), (3, .int x35), (7, .int r20), (0, .ref l0), (1, .ref l1), (2, .int l2), (4, .int l4), (6, .int l6)]) hx hb dL_areRows_169 hl (by decide) rfl (fun ls hl => ?_)
              obtain ⟨x36, ex36⟩ : ∃ y : Int32, y = l6 + 1 := ⟨_, rfl⟩
              replace h := h x36 ex36
              refine lv_iinc (v := x36) (lv' := [(6, .int x36), (5, .int r20), (3, .int x35), (7, .int r20), (0, .ref l0), (1, .ref l1), (2, .int l2), (4, .int l4)]) hx hb dL_areRows_171 hl (k := 7) rfl (by rw [ex36]; rfl) (by decide) rfl (fun ls hl => ?_)
              refine lv_goto (tgt := 58) hx hb dL_areRows_174 (by decide) ?_
              exact ih _ _ _ _ _ _ _ _ _ _ _ h hh hS (lv_sub hl [4, 5, 6, 2, 7, 1, 0] rfl)
            · replace h := h.2 c34
              refine lv_iload hx hb dL_areRows_112 (lv_at hl 5 rfl) ?_
              refine lv_if_ne (tgt := 129) hx hb dL_areRows_114 (by decide) (fun c37 => ?_) (fun c37 => ?_)
              · replace h := h.1 c37
                refine lv_aload_n hx hb dL_areRows_129 rfl (lv_at hl 2 rfl) ?_
                refine lv_iload hx hb dL_areRows_130 (lv_at hl 5 rfl) ?_
                refine lv_iload hx hb dL_areRows_132 (lv_at hl 0 rfl) ?_
                refine lv_i2l hx hb dL_areRows_134 rfl ?_
                refine xc_i (va_runS (As := [.ref l1, .int l4, .long r20.toInt64]) (rest := []) ⟨hx, hb, hml, hown, hts⟩ (mt_L_isGone l hl9 G base h) (va_cwS 3 hts gL_areRows_L_isGone rfl rfl rfl (by decide +kernel) ⟨Nat.le_of_ble_eq_true rfl, Nat.le_of_ble_eq_true rfl⟩) (xp_S hbase hh hK hX hS) rfl rfl hl.1 rfl (lv_room (Nat.le_of_ble_eq_true rfl)) dL_areRows_135 ⟨Nat.le_of_ble_eq_true rfl, Nat.le_of_ble_eq_true rfl⟩) hS (fun r38 m39 H locs h hh hS => ?_)
                refine lv_if_ne (tgt := 165) hx hb dL_areRows_138 (by decide) (fun c40 => ?_) (fun c40 => ?_)
                · replace h := h.1 c40
                  refine lv_iconst (v := 0) hx hb dL_areRows_165 (by decide) ?_
                  refine lv_topi (fun x41 ex41 => ?_)
                  replace h := h x41 ex41
                  refine lv_istore_n (lv' := [(3, .int x41), (7, .int r20), (0, .ref l0), (1, .ref l1), (2, .int l2), (4, .int l4), (5, .int l5), (6, .int l6)]) hx hb dL_areRows_166 rfl hl (by decide) rfl (fun ls hl => ?_)
                  refine lv_iload hx hb dL_areRows_167 (lv_at hl 1 rfl) ?_
                  refine lv_istore (lv' := [(5, .int r20), (3, .int x41), (7, .int r20), (0, .ref l0), (1, .ref l1), (2, .int l2), (4, .int l4), (6, .int l6)]) hx hb dL_areRows_169 hl (by decide) rfl (fun ls hl => ?_)
                  obtain ⟨x42, ex42⟩ : ∃ y : Int32, y = l6 + 1 := ⟨_, rfl⟩
                  replace h := h x42 ex42
                  refine lv_iinc (v := x42) (lv' := [(6, .int x42), (5, .int r20), (3, .int x41), (7, .int r20), (0, .ref l0), (1, .ref l1), (2, .int l2), (4, .int l4)]) hx hb dL_areRows_171 hl (k := 7) rfl (by rw [ex42]; rfl) (by decide) rfl (fun ls hl => ?_)
                  refine lv_goto (tgt := 58) hx hb dL_areRows_174 (by decide) ?_
                  exact ih _ _ _ _ _ _ _ _ _ _ _ h hh hS (lv_sub hl [4, 5, 6, 2, 7, 1, 0] rfl)
                · replace h := h.2 c40
                  refine lv_aload_n hx hb dL_areRows_141 rfl (lv_at hl 1 rfl) ?_
                  refine lv_iload_n hx hb dL_areRows_142 rfl (lv_at hl 3 rfl) ?_
                  refine lv_iload hx hb dL_areRows_143 (lv_at hl 5 rfl) ?_
                  refine lv_iload hx hb dL_areRows_145 (lv_at hl 0 rfl) ?_
                  refine lv_iload hx hb dL_areRows_147 (lv_at hl 5 rfl) ?_
                  refine xc_i (va_runS (As := [.int l4]) (rest := [.int r20, .int l4, .int l2, .ref l0]) ⟨hx, hb, hml, hown, hts⟩ (mt_L_length l hl9 G base h) (va_cwS 1 hts gL_areRows_L_length rfl rfl rfl (by decide +kernel) ⟨Nat.le_of_ble_eq_true rfl, Nat.le_of_ble_eq_true rfl⟩) (xp_S hbase hh hK hX hS) rfl rfl hl.1 rfl (lv_room (Nat.le_of_ble_eq_true rfl)) dL_areRows_149 ⟨Nat.le_of_ble_eq_true rfl, Nat.le_of_ble_eq_true rfl⟩) hS (fun r43 m44 H locs h hh hS => ?_)
                  refine lv_iadd hx hb dL_areRows_152 ?_
                  refine lv_iconst (v := 1) hx hb dL_areRows_153 (by decide) ?_
                  refine lv_isub hx hb dL_areRows_154 ?_
                  obtain ⟨g45, h⟩ := h
                  refine xc_i (va_runV (As := [.int l2, .int l4, .int ((r20 + r43) - (1 : Int32))]) (rest := []) ⟨hx, hb, hml, hown, hts⟩ (mtq_X5_hasRollup l G base h) (cwV 3 hts gL_areRows_X5_hasRollup rfl rfl rfl (by decide +kernel) ⟨Nat.le_of_ble_eq_true rfl, Nat.le_of_ble_eq_true rfl⟩) (xp_V hbase hh hK hX hS (ci := 5) g45 (by decide) rfl) rfl rfl hl.1 rfl (lv_room (Nat.le_of_ble_eq_true rfl)) dL_areRows_155 ⟨Nat.le_of_ble_eq_true rfl, Nat.le_of_ble_eq_true rfl⟩) hS (fun r46 m47 H locs h hh hS => ?_)
                  refine lv_if_eq (tgt := 165) hx hb dL_areRows_158 (by decide) (fun c48 => ?_) (fun c48 => ?_)
                  · replace h := h.1 c48
                    refine lv_iconst (v := 0) hx hb dL_areRows_165 (by decide) ?_
                    refine lv_topi (fun x49 ex49 => ?_)
                    replace h := h x49 ex49
                    refine lv_istore_n (lv' := [(3, .int x49), (7, .int r20), (0, .ref l0), (1, .ref l1), (2, .int l2), (4, .int l4), (5, .int l5), (6, .int l6)]) hx hb dL_areRows_166 rfl hl (by decide) rfl (fun ls hl => ?_)
                    refine lv_iload hx hb dL_areRows_167 (lv_at hl 1 rfl) ?_
                    refine lv_istore (lv' := [(5, .int r20), (3, .int x49), (7, .int r20), (0, .ref l0), (1, .ref l1), (2, .int l2), (4, .int l4), (6, .int l6)]) hx hb dL_areRows_169 hl (by decide) rfl (fun ls hl => ?_)
                    obtain ⟨x50, ex50⟩ : ∃ y : Int32, y = l6 + 1 := ⟨_, rfl⟩
                    replace h := h x50 ex50
                    refine lv_iinc (v := x50) (lv' := [(6, .int x50), (5, .int r20), (3, .int x49), (7, .int r20), (0, .ref l0), (1, .ref l1), (2, .int l2), (4, .int l4)]) hx hb dL_areRows_171 hl (k := 7) rfl (by rw [ex50]; rfl) (by decide) rfl (fun ls hl => ?_)
                    refine lv_goto (tgt := 58) hx hb dL_areRows_174 (by decide) ?_
                    exact ih _ _ _ _ _ _ _ _ _ _ _ h hh hS (lv_sub hl [4, 5, 6, 2, 7, 1, 0] rfl)
                  · replace h := h.2 c48
                    refine lv_iconst (v := 1) hx hb dL_areRows_161 (by decide) ?_
                    refine lv_goto (tgt := 166) hx hb dL_areRows_162 (by decide) ?_
                    refine lv_topi (fun x51 ex51 => ?_)
                    replace h := h x51 ex51
                    refine lv_istore_n (lv' := [(3, .int x51), (7, .int r20), (0, .ref l0), (1, .ref l1), (2, .int l2), (4, .int l4), (5, .int l5), (6, .int l6)]) hx hb dL_areRows_166 rfl hl (by decide) rfl (fun ls hl => ?_)
                    refine lv_iload hx hb dL_areRows_167 (lv_at hl 1 rfl) ?_
                    refine lv_istore (lv' := [(5, .int r20), (3, .int x51), (7, .int r20), (0, .ref l0), (1, .ref l1), (2, .int l2), (4, .int l4), (6, .int l6)]) hx hb dL_areRows_169 hl (by decide) rfl (fun ls hl => ?_)
                    obtain ⟨x52, ex52⟩ : ∃ y : Int32, y = l6 + 1 := ⟨_, rfl⟩
                    replace h := h x52 ex52
                    refine lv_iinc (v := x52) (lv' := [(6, .int x52), (5, .int r20), (3, .int x51), (7, .int r20), (0, .ref l0), (1, .ref l1), (2, .int l2), (4, .int l4)]) hx hb dL_areRows_171 hl (k := 7) rfl (by rw [ex52]; rfl) (by decide) rfl (fun ls hl => ?_)
                    refine lv_goto (tgt := 58) hx hb dL_areRows_174 (by decide) ?_
                    exact ih _ _ _ _ _ _ _ _ _ _ _ h hh hS (lv_sub hl [4, 5, 6, 2, 7, 1, 0] rfl)
              · replace h := h.2 c37
                refine lv_iload hx hb dL_areRows_117 (lv_at hl 0 rfl) ?_
                refine lv_aload_n hx hb dL_areRows_119 rfl (lv_at hl 2 rfl) ?_
                refine lv_bipush (v := 6) hx hb dL_areRows_120 (by decide) ?_
                obtain ⟨g53, h⟩ := h
                obtain ⟨g54, h⟩ := h
                refine xr_iald hx hb hK hh g53 g54 dL_areRows_122 ?_
                refine lv_icmp_lt (tgt := 165) hx hb dL_areRows_123 (by decide) (fun c55 => ?_) (fun c55 => ?_)
                · replace h := h.1 c55
                  refine lv_iconst (v := 0) hx hb dL_areRows_165 (by decide) ?_
                  refine lv_topi (fun x56 ex56 => ?_)
                  replace h := h x56 ex56
                  refine lv_istore_n (lv' := [(3, .int x56), (7, .int r20), (0, .ref l0), (1, .ref l1), (2, .int l2), (4, .int l4), (5, .int l5), (6, .int l6)]) hx hb dL_areRows_166 rfl hl (by decide) rfl (fun ls hl => ?_)
                  refine lv_iload hx hb dL_areRows_167 (lv_at hl 1 rfl) ?_
                  refine lv_istore (lv' := [(5, .int r20), (3, .int x56), (7, .int r20), (0, .ref l0), (1, .ref l1), (2, .int l2), (4, .int l4), (6, .int l6)]) hx hb dL_areRows_169 hl (by decide) rfl (fun ls hl => ?_)
                  obtain ⟨x57, ex57⟩ : ∃ y : Int32, y = l6 + 1 := ⟨_, rfl⟩
                  replace h := h x57 ex57
                  refine lv_iinc (v := x57) (lv' := [(6, .int x57), (5, .int r20), (3, .int x56), (7, .int r20), (0, .ref l0), (1, .ref l1), (2, .int l2), (4, .int l4)]) hx hb dL_areRows_171 hl (k := 7) rfl (by rw [ex57]; rfl) (by decide) rfl (fun ls hl => ?_)
                  refine lv_goto (tgt := 58) hx hb dL_areRows_174 (by decide) ?_
                  exact ih _ _ _ _ _ _ _ _ _ _ _ h hh hS (lv_sub hl [4, 5, 6, 2, 7, 1, 0] rfl)
                · replace h := h.2 c55
                  refine lv_goto (tgt := 161) hx hb dL_areRows_126 (by decide) ?_
                  refine lv_iconst (v := 1) hx hb dL_areRows_161 (by decide) ?_
                  refine lv_goto (tgt := 166) hx hb dL_areRows_162 (by decide) ?_
                  refine lv_topi (fun x58 ex58 => ?_)
                  replace h := h x58 ex58
                  refine lv_istore_n (lv' := [(3, .int x58), (7, .int r20), (0, .ref l0), (1, .ref l1), (2, .int l2), (4, .int l4), (5, .int l5), (6, .int l6)]) hx hb dL_areRows_166 rfl hl (by decide) rfl (fun ls hl => ?_)
                  refine lv_iload hx hb dL_areRows_167 (lv_at hl 1 rfl) ?_
                  refine lv_istore (lv' := [(5, .int r20), (3, .int x58), (7, .int r20), (0, .ref l0), (1, .ref l1), (2, .int l2), (4, .int l4), (6, .int l6)]) hx hb dL_areRows_169 hl (by decide) rfl (fun ls hl => ?_)
                  obtain ⟨x59, ex59⟩ : ∃ y : Int32, y = l6 + 1 := ⟨_, rfl⟩
                  replace h := h x59 ex59
                  refine lv_iinc (v := x59) (lv' := [(6, .int x59), (5, .int r20), (3, .int x58), (7, .int r20), (0, .ref l0), (1, .ref l1), (2, .int l2), (4, .int l4)]) hx hb dL_areRows_171 hl (k := 7) rfl (by rw [ex59]; rfl) (by decide) rfl (fun ls hl => ?_)
                  refine lv_goto (tgt := 58) hx hb dL_areRows_174 (by decide) ?_
                  exact ih _ _ _ _ _ _ _ _ _ _ _ h hh hS (lv_sub hl [4, 5, 6, 2, 7, 1, 0] rfl)

set_option maxHeartbeats 4000000 in
set_option maxRecDepth 100000 in
theorem bk_L_areRows_20 {p : Program} {l : Launch} {e : Env} {s : State} {m : MethodId} {args : Array Value} {below : List Frame} {meth : Method} {c : Code} {G : GG} {base : Nat} (C0 : BC p s m args meth c G base RL cL_areRows 8 (some .boolean) wsL_areRows) (hl9 : l.stackTraces = false) {Q : Int32 → MM → Prop} : ∀ (n : Nat) (l0 : Nat) (l1 : Nat) (l2 : Int32) (l3 : Int32) (l4 : Int32) (m0 : MM) (H : Heap) (locs : List Loc) (ls : Array Slot), wp_L_areRows_20 Q n l0 l1 l2 l3 l4 m0 → hp G (xA base) m0 H → va_S (xA base) s.heap H locs → lv_has ls 8 [(0, .ref l0), (1, .ref l1), (2, .int l2), (3, .int l3), (4, .int l4)] → W p l e ({ frames := 10, cells := 0, slots := 0, locals := 188 } : Room) s m args below meth c H locs 0 0 (MQ below (va_Qi Q (HB G base) (xA base)) args s 0 0 (xA base)) (F0 m 20 ls []) := by
  obtain ⟨hx, hb, hr, hml, hown, hts, hlocks, hK, hbase, hX⟩ := id C0
  intro n
  induction n with
  | zero =>
    intro l0 l1 l2 l3 l4 m0 H locs ls h
    unfold wp_L_areRows_20 at h
    exact h.elim
  | succ n ih =>
    intro l0 l1 l2 l3 l4 m0 H locs ls h hh hS hl
    unfold wp_L_areRows_20 at h
    refine lv_iload hx hb dL_areRows_20 (lv_at hl 4 rfl) ?_
    refine lv_iconst (v := 4) hx hb dL_areRows_22 (by decide) ?_
    refine lv_icmp_ge (tgt := 183) hx hb dL_areRows_23 (by decide) (fun c7 => ?_) (fun c7 => ?_)
    · replace h := h.1 c7
      refine lv_iload_n hx hb dL_areRows_183 rfl (lv_at hl 3 rfl) ?_
      exact (xe_z hx hb hr hlocks hbase hh hK hX hS h.1 h.2 (Nat.le_of_ble_eq_true rfl) (Nat.le_of_ble_eq_true rfl) dL_areRows_184)
    · replace h := h.2 c7
      refine lv_iconst (v := -1) hx hb dL_areRows_26 (by decide) ?_
      refine lv_topi (fun x8 ex8 => ?_)
      replace h := h x8 ex8
      refine lv_istore (lv' := [(5, .int x8), (0, .ref l0), (1, .ref l1), (2, .int l2), (3, .int l3), (4, .int l4)]) hx hb dL_areRows_27 hl (by decide) rfl (fun ls hl => ?_)
      refine lv_iload_n hx hb dL_areRows_29 rfl (lv_at hl 4 rfl) ?_
      refine lv_if_eq (tgt := 53) hx hb dL_areRows_30 (by decide) (fun c9 => ?_) (fun c9 => ?_)
      · replace h := h.1 c9
        refine lv_iconst (v := 0) hx hb dL_areRows_53 (by decide) ?_
        refine lv_topi (fun x10 ex10 => ?_)
        replace h := h x10 ex10
        refine lv_istore_n (lv' := [(3, .int x10), (5, .int x8), (0, .ref l0), (1, .ref l1), (2, .int l2), (4, .int l4)]) hx hb dL_areRows_54 rfl hl (by decide) rfl (fun ls hl => ?_)
        refine lv_iconst (v := 0) hx hb dL_areRows_55 (by decide) ?_
        refine lv_topi (fun x11 ex11 => ?_)
        replace h := h x11 ex11
        refine lv_istore (lv' := [(6, .int x11), (3, .int x10), (5, .int x8), (0, .ref l0), (1, .ref l1), (2, .int l2), (4, .int l4)]) hx hb dL_areRows_56 hl (by decide) rfl (fun ls hl => ?_)
        obtain ⟨n9, h⟩ := h
        exact bk_L_areRows_58 C0 hl9  (K := wp_L_areRows_20 Q n) ih n9 _ _ _ _ _ _ _ _ _ _ _ h hh hS (lv_sub hl [3, 4, 5, 1, 6, 2, 0] rfl)
      · replace h := h.2 c9
        refine lv_aload_n hx hb dL_areRows_33 rfl (lv_at hl 1 rfl) ?_
        refine lv_iload hx hb dL_areRows_34 (lv_at hl 5 rfl) ?_
        obtain ⟨g60, h⟩ := h
        refine xc_i (va_runV (As := [.int l4]) (rest := []) ⟨hx, hb, hml, hown, hts⟩ (mtq_X5_horizon l G base h) (cwV 1 hts gL_areRows_X5_horizon rfl rfl rfl (by decide +kernel) ⟨Nat.le_of_ble_eq_true rfl, Nat.le_of_ble_eq_true rfl⟩) (xp_V hbase hh hK hX hS (ci := 5) g60 (by decide) rfl) rfl rfl hl.1 rfl (lv_room (Nat.le_of_ble_eq_true rfl)) dL_areRows_36 ⟨Nat.le_of_ble_eq_true rfl, Nat.le_of_ble_eq_true rfl⟩) hS (fun r61 m62 H locs h hh hS => ?_)
        refine lv_aload_n hx hb dL_areRows_39 rfl (lv_at hl 2 rfl) ?_
        refine lv_bipush (v := 6) hx hb dL_areRows_40 (by decide) ?_
        refine lv_iload hx hb dL_areRows_42 (lv_at hl 5 rfl) ?_
        refine lv_iadd hx hb dL_areRows_44 ?_
        obtain ⟨g63, h⟩ := h
        obtain ⟨g64, h⟩ := h
        refine xr_iald hx hb hK hh g63 g64 dL_areRows_45 ?_
        refine lv_icmp_ne (tgt := 53) hx hb dL_areRows_46 (by decide) (fun c65 => ?_) (fun c65 => ?_)
        · replace h := h.1 c65
          refine lv_iconst (v := 0) hx hb dL_areRows_53 (by decide) ?_
          refine lv_topi (fun x66 ex66 => ?_)
          replace h := h x66 ex66
          refine lv_istore_n (lv' := [(3, .int x66), (5, .int x8), (0, .ref l0), (1, .ref l1), (2, .int l2), (4, .int l4)]) hx hb dL_areRows_54 rfl hl (by decide) rfl (fun ls hl => ?_)
          refine lv_iconst (v := 0) hx hb dL_areRows_55 (by decide) ?_
          refine lv_topi (fun x67 ex67 => ?_)
          replace h := h x67 ex67
          refine lv_istore (lv' := [(6, .int x67), (3, .int x66), (5, .int x8), (0, .ref l0), (1, .ref l1), (2, .int l2), (4, .int l4)]) hx hb dL_areRows_56 hl (by decide) rfl (fun ls hl => ?_)
          obtain ⟨n9, h⟩ := h
          exact bk_L_areRows_58 C0 hl9  (K := wp_L_areRows_20 Q n) ih n9 _ _ _ _ _ _ _ _ _ _ _ h hh hS (lv_sub hl [3, 4, 5, 1, 6, 2, 0] rfl)
        · replace h := h.2 c65
          refine lv_iconst (v := 1) hx hb dL_areRows_49 (by decide) ?_
          refine lv_goto (tgt := 54) hx hb dL_areRows_50 (by decide) ?_
          refine lv_topi (fun x68 ex68 => ?_)
          replace h := h x68 ex68
          refine lv_istore_n (lv' := [(3, .int x68), (5, .int x8), (0, .ref l0), (1, .ref l1), (2, .int l2), (4, .int l4)]) hx hb dL_areRows_54 rfl hl (by decide) rfl (fun ls hl => ?_)
          refine lv_iconst (v := 0) hx hb dL_areRows_55 (by decide) ?_
          refine lv_topi (fun x69 ex69 => ?_)
          replace h := h x69 ex69
          refine lv_istore (lv' := [(6, .int x69), (3, .int x68), (5, .int x8), (0, .ref l0), (1, .ref l1), (2, .int l2), (4, .int l4)]) hx hb dL_areRows_56 hl (by decide) rfl (fun ls hl => ?_)
          obtain ⟨n9, h⟩ := h
          exact bk_L_areRows_58 C0 hl9  (K := wp_L_areRows_20 Q n) ih n9 _ _ _ _ _ _ _ _ _ _ _ h hh hS (lv_sub hl [3, 4, 5, 1, 6, 2, 0] rfl)

set_option maxHeartbeats 4000000 in
set_option maxRecDepth 100000 in
theorem mt_L_areRows (l : Launch) (hl9 : l.stackTraces = false) (G : GG) (base : Nat) {p1 : Nat} {p2 : Nat} {p3 : Int32} {m0 : MM} {Q : Int32 → MM → Prop} (h : wp_L_areRows p1 p2 p3 m0 Q) : Met l yL_areRows wsL_areRows ({ frames := 10, cells := 0, slots := 0, locals := 188 }) (va_Pc [.ref p1, .ref p2, .int p3] (SP G base m0)) (va_Qi Q (HB G base) (xA base)) 0 0 (xA base) := by
  refine Met.ofW (cc := cL_areRows) (maxL := 8) (ret := (some .boolean)) (by decide) rfl ?_
  intro p e s m args below meth c s₁ B hml hv
  obtain ⟨rfl, hbase, hh, hK, hX⟩ := hv
  have C0 : BC p s m _ meth c G base RL cL_areRows 8 (some .boolean) wsL_areRows := ⟨B.exec, B.bytes, B.returns, hml, findClass_of_methodNamed B.named, atoms_spec (ws := wsL_areRows) B.pre, B.notSynchronized, hK, hbase, hX⟩
  obtain ⟨hx, hb, hr, -, hown, hts, hlocks, -, -, -⟩ := id C0
  have hS : va_S (xA base) s.heap s.heap [] := va_S.rf
  have hl := lv_entry ([.ref p1, .ref p2, .int p3]) (n := 8) (Nat.le_of_ble_eq_true rfl)
  rw [lg_entry_eq]
  generalize (lg_sl ([.ref p1, .ref p2, .int p3]) ++ List.replicate (8 - (lg_sl ([.ref p1, .ref p2, .int p3])).length) Slot.unset).toArray = ls at hl ⊢
  have hl : lv_has ls 8 [(0, .ref p1), (1, .ref p2), (2, .int p3)] := hl
  unfold wp_L_areRows at h
  refine lv_aload_n hx hb dL_areRows_0 rfl (lv_at hl 0 rfl) ?_
  refine lv_iload_n hx hb dL_areRows_1 rfl (lv_at hl 2 rfl) ?_
  refine lv_iconst (v := 0) hx hb dL_areRows_2 (by decide) ?_
  obtain ⟨g1, h⟩ := h
  refine xc_i (va_runV (As := [.int p3, .int (0 : Int32)]) (rest := []) ⟨hx, hb, hml, hown, hts⟩ (mtq_X5_rows l G base h) (cwV 2 hts gL_areRows_X5_rows rfl rfl rfl (by decide +kernel) ⟨Nat.le_of_ble_eq_true rfl, Nat.le_of_ble_eq_true rfl⟩) (xp_V hbase hh hK hX hS (ci := 5) g1 (by decide) rfl) rfl rfl hl.1 rfl (lv_room (Nat.le_of_ble_eq_true rfl)) dL_areRows_3 ⟨Nat.le_of_ble_eq_true rfl, Nat.le_of_ble_eq_true rfl⟩) hS (fun r2 m3 H locs h hh hS => ?_)
  refine lv_bipush (v := 100) hx hb dL_areRows_6 (by decide) ?_
  refine lv_icmp_gt (tgt := 15) hx hb dL_areRows_8 (by decide) (fun c4 => ?_) (fun c4 => ?_)
  · replace h := h.1 c4
    refine lv_iconst (v := 0) hx hb dL_areRows_15 (by decide) ?_
    refine lv_topi (fun x5 ex5 => ?_)
    replace h := h x5 ex5
    refine lv_istore_n (lv' := [(3, .int x5), (0, .ref p1), (1, .ref p2), (2, .int p3)]) hx hb dL_areRows_16 rfl hl (by decide) rfl (fun ls hl => ?_)
    refine lv_iconst (v := 0) hx hb dL_areRows_17 (by decide) ?_
    refine lv_topi (fun x6 ex6 => ?_)
    replace h := h x6 ex6
    refine lv_istore (lv' := [(4, .int x6), (3, .int x5), (0, .ref p1), (1, .ref p2), (2, .int p3)]) hx hb dL_areRows_18 hl (by decide) rfl (fun ls hl => ?_)
    obtain ⟨n9, h⟩ := h
    exact bk_L_areRows_20 C0 hl9  n9 _ _ _ _ _ _ _ _ _ h hh hS (lv_sub hl [2, 3, 4, 1, 0] rfl)
  · replace h := h.2 c4
    refine lv_iconst (v := 1) hx hb dL_areRows_11 (by decide) ?_
    refine lv_goto (tgt := 16) hx hb dL_areRows_12 (by decide) ?_
    refine lv_topi (fun x70 ex70 => ?_)
    replace h := h x70 ex70
    refine lv_istore_n (lv' := [(3, .int x70), (0, .ref p1), (1, .ref p2), (2, .int p3)]) hx hb dL_areRows_16 rfl hl (by decide) rfl (fun ls hl => ?_)
    refine lv_iconst (v := 0) hx hb dL_areRows_17 (by decide) ?_
    refine lv_topi (fun x71 ex71 => ?_)
    replace h := h x71 ex71
    refine lv_istore (lv' := [(4, .int x71), (3, .int x70), (0, .ref p1), (1, .ref p2), (2, .int p3)]) hx hb dL_areRows_18 hl (by decide) rfl (fun ls hl => ?_)
    obtain ⟨n9, h⟩ := h
    exact bk_L_areRows_20 C0 hl9  n9 _ _ _ _ _ _ _ _ _ h hh hS (lv_sub hl [2, 3, 4, 1, 0] rfl)

set_option maxHeartbeats 4000000 in
set_option maxRecDepth 100000 in
theorem bk_L_areWindows_468 {p : Program} {l : Launch} {e : Env} {s : State} {m : MethodId} {args : Array Value} {below : List Frame} {meth : Method} {c : Code} {G : GG} {base : Nat} (C0 : BC p s m args meth c G base RL cL_areWindows 20 (some .boolean) wsL_areWindows) (hl9 : l.stackTraces = false) {Q : Int32 → MM → Prop} : ∀ (l0 : Nat) (l2 : Int32) (l5 : Int32) (l7 : Int32) (l10 : Int32) (l13 : Int64) (s0 : Int32) (m0 : MM) (H : Heap) (locs : List Loc) (ls : Array Slot), wp_L_areWindows_468 Q l0 l2 l5 l7 l10 l13 s0 m0 → hp G (xA base) m0 H → va_S (xA base) s.heap H locs → lv_has ls 20 [(0, .ref l0), (2, .int l2), (5, .int l5), (7, .int l7), (10, .int l10), (13, .long l13)] → W p l e ({ frames := 9, cells := 0, slots := 0, locals := 209 } : Room) s m args below meth c H locs 0 0 (MQ below (va_Qi Q (HB G base) (xA base)) args s 0 0 (xA base)) (F0 m 468 ls [.int s0]) := by
  obtain ⟨hx, hb, hr, hml, hown, hts, hlocks, hK, hbase, hX⟩ := id C0
  intro l0 l2 l5 l7 l10 l13 s0 m0 H locs ls h hh hS hl
  unfold wp_L_areWindows_468 at h
  have q1 : (Cond.constantDouble RL 115 (4660134898793709568)).before _ s = true := hts _ (List.mem_cons_of_mem _ (List.mem_append_left _ (List.mem_append_left _ (List.mem_append_left _ (List.mem_append_left _ (List.mem_append_left _ (List.mem_append_left _ (List.mem_append_left _ (List.mem_append_left _ (List.mem_append_left _ (List.mem_append_left _ (List.mem_of_getElem? (i := 3) rfl))))))))))))
  refine lv_istore (lv' := [(19, .int s0), (0, .ref l0), (2, .int l2), (5, .int l5), (7, .int l7), (10, .int l10), (13, .long l13)]) hx hb dL_areWindows_468 hl (by decide) rfl (fun ls hl => ?_)
  refine lv_iload hx hb dL_areWindows_470 (lv_at hl 5 rfl) ?_
  refine lv_if_eq (tgt := 525) hx hb dL_areWindows_472 (by decide) (fun c43 => ?_) (fun c43 => ?_)
  · replace h := h.1 c43
    refine lv_iconst (v := 0) hx hb dL_areWindows_525 (by decide) ?_
    exact (xe_z hx hb hr hlocks hbase hh hK hX hS (Or.inl rfl) h (Nat.le_of_ble_eq_true rfl) (Nat.le_of_ble_eq_true rfl) dL_areWindows_526)
  · replace h := h.2 c43
    refine lv_lload hx hb dL_areWindows_475 (lv_at hl 6 rfl) ?_
    refine lv_lconst (v := 0) hx hb dL_areWindows_477 (by decide) ?_
    refine W.lcmp hx hb dL_areWindows_478 ?_
    refine lv_if_lt (tgt := 525) hx hb dL_areWindows_479 (by decide) (fun c44 => ?_) (fun c44 => ?_)
    · replace h := h.1 c44
      refine lv_iconst (v := 0) hx hb dL_areWindows_525 (by decide) ?_
      exact (xe_z hx hb hr hlocks hbase hh hK hX hS (Or.inl rfl) h (Nat.le_of_ble_eq_true rfl) (Nat.le_of_ble_eq_true rfl) dL_areWindows_526)
    · replace h := h.2 c44
      refine lv_iload hx hb dL_areWindows_482 (lv_at hl 0 rfl) ?_
      refine lv_if_eq (tgt := 525) hx hb dL_areWindows_484 (by decide) (fun c45 => ?_) (fun c45 => ?_)
      · replace h := h.1 c45
        refine lv_iconst (v := 0) hx hb dL_areWindows_525 (by decide) ?_
        exact (xe_z hx hb hr hlocks hbase hh hK hX hS (Or.inl rfl) h (Nat.le_of_ble_eq_true rfl) (Nat.le_of_ble_eq_true rfl) dL_areWindows_526)
      · replace h := h.2 c45
        refine lv_iload hx hb dL_areWindows_487 (lv_at hl 3 rfl) ?_
        refine lv_iload hx hb dL_areWindows_489 (lv_at hl 4 rfl) ?_
        refine lv_icmp_eq (tgt := 521) hx hb dL_areWindows_491 (by decide) (fun c46 => ?_) (fun c46 => ?_)
        · replace h := h.1 c46
          refine lv_iconst (v := 1) hx hb dL_areWindows_521 (by decide) ?_
          refine lv_goto (tgt := 526) hx hb dL_areWindows_522 (by decide) ?_
          exact (xe_z hx hb hr hlocks hbase hh hK hX hS (Or.inr rfl) h (Nat.le_of_ble_eq_true rfl) (Nat.le_of_ble_eq_true rfl) dL_areWindows_526)
        · replace h := h.2 c46
          refine lv_aload_n hx hb dL_areWindows_494 rfl (lv_at hl 1 rfl) ?_
          refine lv_iload_n hx hb dL_areWindows_495 rfl (lv_at hl 2 rfl) ?_
          refine lv_iload hx hb dL_areWindows_496 (lv_at hl 3 rfl) ?_
          refine lv_iload hx hb dL_areWindows_498 (lv_at hl 4 rfl) ?_
          obtain ⟨g47, h⟩ := h
          refine xc_d (va_runV (As := [.int l2, .int l5, .int l7]) (rest := []) ⟨hx, hb, hml, hown, hts⟩ (mtq_X5_ratePerHour l G base h) (cwV 3 hts gL_areWindows_X5_ratePerHour rfl rfl rfl (by decide +kernel) ⟨Nat.le_of_ble_eq_true rfl, Nat.le_of_ble_eq_true rfl⟩) (xp_V hbase hh hK hX hS (ci := 5) g47 (by decide) rfl) rfl rfl hl.1 rfl (lv_room (Nat.le_of_ble_eq_true rfl)) dL_areWindows_500 ⟨Nat.le_of_ble_eq_true rfl, Nat.le_of_ble_eq_true rfl⟩) hS (fun r48 m49 H locs h hh hS => ?_)
          refine lv_lload hx hb dL_areWindows_503 (lv_at hl 6 rfl) ?_
          refine lv_l2d hx hb dL_areWindows_505 ?_
          refine lv_ldc2d hx hb hown q1 dL_areWindows_506 ?_
          obtain ⟨g50, h⟩ := h
          refine lv_dmul hx hb dL_areWindows_509 g50 ?_
          refine lv_iload hx hb dL_areWindows_510 (lv_at hl 4 rfl) ?_
          refine lv_iload hx hb dL_areWindows_512 (lv_at hl 3 rfl) ?_
          refine lv_isub hx hb dL_areWindows_514 ?_
          refine lv_i2d hx hb dL_areWindows_515 ?_
          obtain ⟨g51, h⟩ := h
          refine lv_ddiv hx hb dL_areWindows_516 g51 ?_
          refine lv_dcmp hx hb dL_areWindows_517 ?_
          refine lv_if_ne (tgt := 525) hx hb dL_areWindows_518 (by decide) (fun c52 => ?_) (fun c52 => ?_)
          · replace h := h.1 c52
            refine lv_iconst (v := 0) hx hb dL_areWindows_525 (by decide) ?_
            exact (xe_z hx hb hr hlocks hbase hh hK hX hS (Or.inl rfl) h (Nat.le_of_ble_eq_true rfl) (Nat.le_of_ble_eq_true rfl) dL_areWindows_526)
          · replace h := h.2 c52
            refine lv_iconst (v := 1) hx hb dL_areWindows_521 (by decide) ?_
            refine lv_goto (tgt := 526) hx hb dL_areWindows_522 (by decide) ?_
            exact (xe_z hx hb hr hlocks hbase hh hK hX hS (Or.inr rfl) h (Nat.le_of_ble_eq_true rfl) (Nat.le_of_ble_eq_true rfl) dL_areWindows_526)

set_option maxHeartbeats 4000000 in
set_option maxRecDepth 100000 in
theorem bk_L_areWindows_463 {p : Program} {l : Launch} {e : Env} {s : State} {m : MethodId} {args : Array Value} {below : List Frame} {meth : Method} {c : Code} {G : GG} {base : Nat} (C0 : BC p s m args meth c G base RL cL_areWindows 20 (some .boolean) wsL_areWindows) (hl9 : l.stackTraces = false) {Q : Int32 → MM → Prop} : ∀ (l0 : Nat) (l2 : Int32) (l5 : Int32) (l7 : Int32) (l10 : Int32) (l13 : Int64) (m0 : MM) (H : Heap) (locs : List Loc) (ls : Array Slot), wp_L_areWindows_463 Q l0 l2 l5 l7 l10 l13 m0 → hp G (xA base) m0 H → va_S (xA base) s.heap H locs → lv_has ls 20 [(0, .ref l0), (2, .int l2), (5, .int l5), (7, .int l7), (10, .int l10), (13, .long l13)] → W p l e ({ frames := 9, cells := 0, slots := 0, locals := 209 } : Room) s m args below meth c H locs 0 0 (MQ below (va_Qi Q (HB G base) (xA base)) args s 0 0 (xA base)) (F0 m 463 ls []) := by
  obtain ⟨hx, hb, hr, hml, hown, hts, hlocks, hK, hbase, hX⟩ := id C0
  intro l0 l2 l5 l7 l10 l13 m0 H locs ls h hh hS hl
  unfold wp_L_areWindows_463 at h
  refine lv_iconst (v := 1) hx hb dL_areWindows_463 (by decide) ?_
  refine lv_goto (tgt := 468) hx hb dL_areWindows_464 (by decide) ?_
  exact bk_L_areWindows_468 C0 hl9  _ _ _ _ _ _ _ _ _ _ _ h hh hS (lv_sub hl [0, 1, 2, 3, 4, 5] rfl)

set_option maxHeartbeats 4000000 in
set_option maxRecDepth 100000 in
theorem bk_L_areWindows_467 {p : Program} {l : Launch} {e : Env} {s : State} {m : MethodId} {args : Array Value} {below : List Frame} {meth : Method} {c : Code} {G : GG} {base : Nat} (C0 : BC p s m args meth c G base RL cL_areWindows 20 (some .boolean) wsL_areWindows) (hl9 : l.stackTraces = false) {Q : Int32 → MM → Prop} : ∀ (l0 : Nat) (l2 : Int32) (l5 : Int32) (l7 : Int32) (l10 : Int32) (l13 : Int64) (m0 : MM) (H : Heap) (locs : List Loc) (ls : Array Slot), wp_L_areWindows_467 Q l0 l2 l5 l7 l10 l13 m0 → hp G (xA base) m0 H → va_S (xA base) s.heap H locs → lv_has ls 20 [(0, .ref l0), (2, .int l2), (5, .int l5), (7, .int l7), (10, .int l10), (13, .long l13)] → W p l e ({ frames := 9, cells := 0, slots := 0, locals := 209 } : Room) s m args below meth c H locs 0 0 (MQ below (va_Qi Q (HB G base) (xA base)) args s 0 0 (xA base)) (F0 m 467 ls []) := by
  obtain ⟨hx, hb, hr, hml, hown, hts, hlocks, hK, hbase, hX⟩ := id C0
  intro l0 l2 l5 l7 l10 l13 m0 H locs ls h hh hS hl
  unfold wp_L_areWindows_467 at h
  refine lv_iconst (v := 0) hx hb dL_areWindows_467 (by decide) ?_
  exact bk_L_areWindows_468 C0 hl9  _ _ _ _ _ _ _ _ _ _ _ h hh hS (lv_sub hl [0, 1, 2, 3, 4, 5] rfl)

set_option maxHeartbeats 4000000 in
set_option maxRecDepth 100000 in
theorem bk_L_areWindows_379 {p : Program} {l : Launch} {e : Env} {s : State} {m : MethodId} {args : Array Value} {below : List Frame} {meth : Method} {c : Code} {G : GG} {base : Nat} (C0 : BC p s m args meth c G base RL cL_areWindows 20 (some .boolean) wsL_areWindows) (hl9 : l.stackTraces = false) {Q : Int32 → MM → Prop} : ∀ (l0 : Nat) (l1 : Nat) (l2 : Int32) (l5 : Int32) (l6 : Int32) (l7 : Int32) (s0 : Int32) (m0 : MM) (H : Heap) (locs : List Loc) (ls : Array Slot), wp_L_areWindows_379 Q l0 l1 l2 l5 l6 l7 s0 m0 → hp G (xA base) m0 H → va_S (xA base) s.heap H locs → lv_has ls 20 [(0, .ref l0), (1, .ref l1), (2, .int l2), (5, .int l5), (6, .int l6), (7, .int l7)] → W p l e ({ frames := 9, cells := 0, slots := 0, locals := 209 } : Room) s m args below meth c H locs 0 0 (MQ below (va_Qi Q (HB G base) (xA base)) args s 0 0 (xA base)) (F0 m 379 ls [.int s0]) := by
  obtain ⟨hx, hb, hr, hml, hown, hts, hlocks, hK, hbase, hX⟩ := id C0
  intro l0 l1 l2 l5 l6 l7 s0 m0 H locs ls h hh hS hl
  unfold wp_L_areWindows_379 at h
  have q1 : (Cond.constantLong RL 110 (1000000)).before _ s = true := hts _ (List.mem_cons_of_mem _ (List.mem_append_left _ (List.mem_append_left _ (List.mem_append_left _ (List.mem_append_left _ (List.mem_append_left _ (List.mem_append_left _ (List.mem_append_left _ (List.mem_append_left _ (List.mem_append_left _ (List.mem_append_left _ (List.mem_of_getElem? (i := 2) rfl))))))))))))
  refine lv_istore (lv' := [(10, .int s0), (0, .ref l0), (1, .ref l1), (2, .int l2), (5, .int l5), (6, .int l6), (7, .int l7)]) hx hb dL_areWindows_379 hl (by decide) rfl (fun ls hl => ?_)
  refine lv_aload_n hx hb dL_areWindows_381 rfl (lv_at hl 2 rfl) ?_
  refine lv_iload_n hx hb dL_areWindows_382 rfl (lv_at hl 3 rfl) ?_
  obtain ⟨g30, h⟩ := h
  obtain ⟨g31, h⟩ := h
  refine xr_iald hx hb hK hh g30 g31 dL_areWindows_383 ?_
  refine lv_if_ne (tgt := 390) hx hb dL_areWindows_384 (by decide) (fun c32 => ?_) (fun c32 => ?_)
  · replace h := h.1 c32
    refine lv_aload_n hx hb dL_areWindows_390 rfl (lv_at hl 1 rfl) ?_
    refine lv_iload_n hx hb dL_areWindows_391 rfl (lv_at hl 3 rfl) ?_
    refine lv_iload hx hb dL_areWindows_392 (lv_at hl 4 rfl) ?_
    refine lv_iload hx hb dL_areWindows_394 (lv_at hl 6 rfl) ?_
    obtain ⟨g33, h⟩ := h
    refine xc_l (va_runV (As := [.int l2, .int l5, .int l7]) (rest := []) ⟨hx, hb, hml, hown, hts⟩ (mtq_X5_increase l G base h) (cwV 3 hts gL_areWindows_X5_increase rfl rfl rfl (by decide +kernel) ⟨Nat.le_of_ble_eq_true rfl, Nat.le_of_ble_eq_true rfl⟩) (xp_V hbase hh hK hX hS (ci := 5) g33 (by decide) rfl) rfl rfl hl.1 rfl (lv_room (Nat.le_of_ble_eq_true rfl)) dL_areWindows_396 ⟨Nat.le_of_ble_eq_true rfl, Nat.le_of_ble_eq_true rfl⟩) hS (fun r34 m35 H locs h hh hS => ?_)
    refine lv_lstore (lv' := [(13, .long r34), (10, .int s0), (0, .ref l0), (1, .ref l1), (2, .int l2), (5, .int l5), (6, .int l6), (7, .int l7)]) hx hb dL_areWindows_399 hl (by decide) rfl (fun ls hl => ?_)
    refine lv_aload_n hx hb dL_areWindows_401 rfl (lv_at hl 2 rfl) ?_
    refine lv_iload_n hx hb dL_areWindows_402 rfl (lv_at hl 4 rfl) ?_
    refine lv_iload hx hb dL_areWindows_403 (lv_at hl 5 rfl) ?_
    refine lv_iload hx hb dL_areWindows_405 (lv_at hl 6 rfl) ?_
    obtain ⟨g36, h⟩ := h
    refine xc_l (va_runV (As := [.int l2, .int l5, .int l6]) (rest := []) ⟨hx, hb, hml, hown, hts⟩ (mtq_X5_increase l G base h) (cwV 3 hts gL_areWindows_X5_increase rfl rfl rfl (by decide +kernel) ⟨Nat.le_of_ble_eq_true rfl, Nat.le_of_ble_eq_true rfl⟩) (xp_V hbase hh hK hX hS (ci := 5) g36 (by decide) rfl) rfl rfl hl.1 rfl (lv_room (Nat.le_of_ble_eq_true rfl)) dL_areWindows_407 ⟨Nat.le_of_ble_eq_true rfl, Nat.le_of_ble_eq_true rfl⟩) hS (fun r37 m38 H locs h hh hS => ?_)
    refine lv_lstore (lv' := [(15, .long r37), (13, .long r34), (10, .int s0), (0, .ref l0), (1, .ref l1), (2, .int l2), (5, .int l5), (6, .int l6), (7, .int l7)]) hx hb dL_areWindows_410 hl (by decide) rfl (fun ls hl => ?_)
    refine lv_aload_n hx hb dL_areWindows_412 rfl (lv_at hl 3 rfl) ?_
    refine lv_iload_n hx hb dL_areWindows_413 rfl (lv_at hl 5 rfl) ?_
    refine lv_iload hx hb dL_areWindows_414 (lv_at hl 7 rfl) ?_
    refine lv_iload hx hb dL_areWindows_416 (lv_at hl 8 rfl) ?_
    obtain ⟨g39, h⟩ := h
    refine xc_l (va_runV (As := [.int l2, .int l6, .int l7]) (rest := []) ⟨hx, hb, hml, hown, hts⟩ (mtq_X5_increase l G base h) (cwV 3 hts gL_areWindows_X5_increase rfl rfl rfl (by decide +kernel) ⟨Nat.le_of_ble_eq_true rfl, Nat.le_of_ble_eq_true rfl⟩) (xp_V hbase hh hK hX hS (ci := 5) g39 (by decide) rfl) rfl rfl hl.1 rfl (lv_room (Nat.le_of_ble_eq_true rfl)) dL_areWindows_418 ⟨Nat.le_of_ble_eq_true rfl, Nat.le_of_ble_eq_true rfl⟩) hS (fun r40 m41 H locs h hh hS => ?_)
    refine lv_lstore (lv' := [(17, .long r40), (15, .long r37), (13, .long r34), (10, .int s0), (0, .ref l0), (1, .ref l1), (2, .int l2), (5, .int l5), (6, .int l6), (7, .int l7)]) hx hb dL_areWindows_421 hl (by decide) rfl (fun ls hl => ?_)
    refine lv_iload hx hb dL_areWindows_423 (lv_at hl 7 rfl) ?_
    refine lv_iload hx hb dL_areWindows_425 (lv_at hl 8 rfl) ?_
    refine lv_icmp_eq (tgt := 463) hx hb dL_areWindows_427 (by decide) (fun c42 => ?_) (fun c42 => ?_)
    · replace h := h.1 c42
      exact bk_L_areWindows_463 C0 hl9  _ _ _ _ _ _ _ _ _ _ h hh hS (lv_sub hl [4, 6, 7, 9, 3, 2] rfl)
    · replace h := h.2 c42
      refine lv_iload hx hb dL_areWindows_430 (lv_at hl 8 rfl) ?_
      refine lv_iload hx hb dL_areWindows_432 (lv_at hl 9 rfl) ?_
      refine lv_icmp_eq (tgt := 463) hx hb dL_areWindows_434 (by decide) (fun c53 => ?_) (fun c53 => ?_)
      · replace h := h.1 c53
        exact bk_L_areWindows_463 C0 hl9  _ _ _ _ _ _ _ _ _ _ h hh hS (lv_sub hl [4, 6, 7, 9, 3, 2] rfl)
      · replace h := h.2 c53
        refine lv_lload hx hb dL_areWindows_437 (lv_at hl 2 rfl) ?_
        refine lv_lload hx hb dL_areWindows_439 (lv_at hl 1 rfl) ?_
        refine lv_lload hx hb dL_areWindows_441 (lv_at hl 0 rfl) ?_
        refine lv_ladd hx hb dL_areWindows_443 ?_
        refine W.lcmp hx hb dL_areWindows_444 ?_
        refine lv_if_lt (tgt := 467) hx hb dL_areWindows_445 (by decide) (fun c54 => ?_) (fun c54 => ?_)
        · replace h := h.1 c54
          exact bk_L_areWindows_467 C0 hl9  _ _ _ _ _ _ _ _ _ _ h hh hS (lv_sub hl [4, 6, 7, 9, 3, 2] rfl)
        · replace h := h.2 c54
          refine lv_lload hx hb dL_areWindows_448 (lv_at hl 2 rfl) ?_
          refine lv_lload hx hb dL_areWindows_450 (lv_at hl 1 rfl) ?_
          refine lv_lload hx hb dL_areWindows_452 (lv_at hl 0 rfl) ?_
          refine lv_ladd hx hb dL_areWindows_454 ?_
          refine lv_ldc2 hx hb hown q1 dL_areWindows_455 ?_
          refine lv_ladd hx hb dL_areWindows_458 ?_
          refine W.lcmp hx hb dL_areWindows_459 ?_
          refine lv_if_gt (tgt := 467) hx hb dL_areWindows_460 (by decide) (fun c55 => ?_) (fun c55 => ?_)
          · replace h := h.1 c55
            exact bk_L_areWindows_467 C0 hl9  _ _ _ _ _ _ _ _ _ _ h hh hS (lv_sub hl [4, 6, 7, 9, 3, 2] rfl)
          · replace h := h.2 c55
            exact bk_L_areWindows_463 C0 hl9  _ _ _ _ _ _ _ _ _ _ h hh hS (lv_sub hl [4, 6, 7, 9, 3, 2] rfl)
  · replace h := h.2 c32
    refine lv_iload hx hb dL_areWindows_387 (lv_at hl 0 rfl) ?_
    exact (xe_z hx hb hr hlocks hbase hh hK hX hS h.1 h.2 (Nat.le_of_ble_eq_true rfl) (Nat.le_of_ble_eq_true rfl) dL_areWindows_389)

set_option maxHeartbeats 4000000 in
set_option maxRecDepth 100000 in
theorem bk_L_areWindows_378 {p : Program} {l : Launch} {e : Env} {s : State} {m : MethodId} {args : Array Value} {below : List Frame} {meth : Method} {c : Code} {G : GG} {base : Nat} (C0 : BC p s m args meth c G base RL cL_areWindows 20 (some .boolean) wsL_areWindows) (hl9 : l.stackTraces = false) {Q : Int32 → MM → Prop} : ∀ (l0 : Nat) (l1 : Nat) (l2 : Int32) (l5 : Int32) (l6 : Int32) (l7 : Int32) (m0 : MM) (H : Heap) (locs : List Loc) (ls : Array Slot), wp_L_areWindows_378 Q l0 l1 l2 l5 l6 l7 m0 → hp G (xA base) m0 H → va_S (xA base) s.heap H locs → lv_has ls 20 [(0, .ref l0), (1, .ref l1), (2, .int l2), (5, .int l5), (6, .int l6), (7, .int l7)] → W p l e ({ frames := 9, cells := 0, slots := 0, locals := 209 } : Room) s m args below meth c H locs 0 0 (MQ below (va_Qi Q (HB G base) (xA base)) args s 0 0 (xA base)) (F0 m 378 ls []) := by
  obtain ⟨hx, hb, hr, hml, hown, hts, hlocks, hK, hbase, hX⟩ := id C0
  intro l0 l1 l2 l5 l6 l7 m0 H locs ls h hh hS hl
  unfold wp_L_areWindows_378 at h
  refine lv_iconst (v := 0) hx hb dL_areWindows_378 (by decide) ?_
  exact bk_L_areWindows_379 C0 hl9  _ _ _ _ _ _ _ _ _ _ _ h hh hS (lv_sub hl [0, 1, 2, 3, 4, 5] rfl)

set_option maxHeartbeats 4000000 in
set_option maxRecDepth 100000 in
theorem bk_L_areWindows_374 {p : Program} {l : Launch} {e : Env} {s : State} {m : MethodId} {args : Array Value} {below : List Frame} {meth : Method} {c : Code} {G : GG} {base : Nat} (C0 : BC p s m args meth c G base RL cL_areWindows 20 (some .boolean) wsL_areWindows) (hl9 : l.stackTraces = false) {Q : Int32 → MM → Prop} : ∀ (l0 : Nat) (l1 : Nat) (l2 : Int32) (l5 : Int32) (l6 : Int32) (l7 : Int32) (m0 : MM) (H : Heap) (locs : List Loc) (ls : Array Slot), wp_L_areWindows_374 Q l0 l1 l2 l5 l6 l7 m0 → hp G (xA base) m0 H → va_S (xA base) s.heap H locs → lv_has ls 20 [(0, .ref l0), (1, .ref l1), (2, .int l2), (5, .int l5), (6, .int l6), (7, .int l7)] → W p l e ({ frames := 9, cells := 0, slots := 0, locals := 209 } : Room) s m args below meth c H locs 0 0 (MQ below (va_Qi Q (HB G base) (xA base)) args s 0 0 (xA base)) (F0 m 374 ls []) := by
  obtain ⟨hx, hb, hr, hml, hown, hts, hlocks, hK, hbase, hX⟩ := id C0
  intro l0 l1 l2 l5 l6 l7 m0 H locs ls h hh hS hl
  unfold wp_L_areWindows_374 at h
  refine lv_iconst (v := 1) hx hb dL_areWindows_374 (by decide) ?_
  refine lv_goto (tgt := 379) hx hb dL_areWindows_375 (by decide) ?_
  exact bk_L_areWindows_379 C0 hl9  _ _ _ _ _ _ _ _ _ _ _ h hh hS (lv_sub hl [0, 1, 2, 3, 4, 5] rfl)

set_option maxHeartbeats 4000000 in
set_option maxRecDepth 100000 in
theorem bk_L_areWindows_277 {p : Program} {l : Launch} {e : Env} {s : State} {m : MethodId} {args : Array Value} {below : List Frame} {meth : Method} {c : Code} {G : GG} {base : Nat} (C0 : BC p s m args meth c G base RL cL_areWindows 20 (some .boolean) wsL_areWindows) (hl9 : l.stackTraces = false) {Q : Int32 → MM → Prop} : ∀ (l0 : Nat) (l1 : Nat) (l2 : Int32) (l5 : Int32) (l6 : Int32) (l7 : Int32) (l9 : Int32) (s0 : Int32) (m0 : MM) (H : Heap) (locs : List Loc) (ls : Array Slot), wp_L_areWindows_277 Q l0 l1 l2 l5 l6 l7 l9 s0 m0 → hp G (xA base) m0 H → va_S (xA base) s.heap H locs → lv_has ls 20 [(0, .ref l0), (1, .ref l1), (2, .int l2), (5, .int l5), (6, .int l6), (7, .int l7), (9, .int l9)] → W p l e ({ frames := 9, cells := 0, slots := 0, locals := 209 } : Room) s m args below meth c H locs 0 0 (MQ below (va_Qi Q (HB G base) (xA base)) args s 0 0 (xA base)) (F0 m 277 ls [.int s0]) := by
  obtain ⟨hx, hb, hr, hml, hown, hts, hlocks, hK, hbase, hX⟩ := id C0
  intro l0 l1 l2 l5 l6 l7 l9 s0 m0 H locs ls h hh hS hl
  unfold wp_L_areWindows_277 at h
  refine lv_istore (lv' := [(10, .int s0), (0, .ref l0), (1, .ref l1), (2, .int l2), (5, .int l5), (6, .int l6), (7, .int l7), (9, .int l9)]) hx hb dL_areWindows_277 hl (by decide) rfl (fun ls hl => ?_)
  refine lv_iload hx hb dL_areWindows_279 (lv_at hl 7 rfl) ?_
  refine lv_if_eq (tgt := 306) hx hb dL_areWindows_281 (by decide) (fun c17 => ?_) (fun c17 => ?_)
  · replace h := h.1 c17
    refine lv_iload hx hb dL_areWindows_306 (lv_at hl 0 rfl) ?_
    exact (xe_z hx hb hr hlocks hbase hh hK hX hS h.1 h.2 (Nat.le_of_ble_eq_true rfl) (Nat.le_of_ble_eq_true rfl) dL_areWindows_308)
  · replace h := h.2 c17
    refine lv_aload_n hx hb dL_areWindows_284 rfl (lv_at hl 1 rfl) ?_
    refine lv_iload hx hb dL_areWindows_285 (lv_at hl 4 rfl) ?_
    refine lv_iload hx hb dL_areWindows_287 (lv_at hl 5 rfl) ?_
    obtain ⟨g18, h⟩ := h
    refine xc_i (va_runV (As := [.int l5, .int l6]) (rest := []) ⟨hx, hb, hml, hown, hts⟩ (mtq_X5_isKnown l G base h) (cwV 2 hts gL_areWindows_X5_isKnown rfl rfl rfl (by decide +kernel) ⟨Nat.le_of_ble_eq_true rfl, Nat.le_of_ble_eq_true rfl⟩) (xp_V hbase hh hK hX hS (ci := 5) g18 (by decide) rfl) rfl rfl hl.1 rfl (lv_room (Nat.le_of_ble_eq_true rfl)) dL_areWindows_289 ⟨Nat.le_of_ble_eq_true rfl, Nat.le_of_ble_eq_true rfl⟩) hS (fun r19 m20 H locs h hh hS => ?_)
    refine lv_if_eq (tgt := 306) hx hb dL_areWindows_292 (by decide) (fun c21 => ?_) (fun c21 => ?_)
    · replace h := h.1 c21
      refine lv_iload hx hb dL_areWindows_306 (lv_at hl 0 rfl) ?_
      exact (xe_z hx hb hr hlocks hbase hh hK hX hS h.1 h.2 (Nat.le_of_ble_eq_true rfl) (Nat.le_of_ble_eq_true rfl) dL_areWindows_308)
    · replace h := h.2 c21
      refine lv_aload_n hx hb dL_areWindows_295 rfl (lv_at hl 1 rfl) ?_
      refine lv_iload hx hb dL_areWindows_296 (lv_at hl 5 rfl) ?_
      refine lv_iload hx hb dL_areWindows_298 (lv_at hl 6 rfl) ?_
      obtain ⟨g22, h⟩ := h
      refine xc_i (va_runV (As := [.int l6, .int l7]) (rest := []) ⟨hx, hb, hml, hown, hts⟩ (mtq_X5_isKnown l G base h) (cwV 2 hts gL_areWindows_X5_isKnown rfl rfl rfl (by decide +kernel) ⟨Nat.le_of_ble_eq_true rfl, Nat.le_of_ble_eq_true rfl⟩) (xp_V hbase hh hK hX hS (ci := 5) g22 (by decide) rfl) rfl rfl hl.1 rfl (lv_room (Nat.le_of_ble_eq_true rfl)) dL_areWindows_300 ⟨Nat.le_of_ble_eq_true rfl, Nat.le_of_ble_eq_true rfl⟩) hS (fun r23 m24 H locs h hh hS => ?_)
      refine lv_if_ne (tgt := 309) hx hb dL_areWindows_303 (by decide) (fun c25 => ?_) (fun c25 => ?_)
      · replace h := h.1 c25
        refine lv_aload_n hx hb dL_areWindows_309 rfl (lv_at hl 1 rfl) ?_
        refine lv_iload_n hx hb dL_areWindows_310 rfl (lv_at hl 3 rfl) ?_
        refine lv_iload hx hb dL_areWindows_311 (lv_at hl 4 rfl) ?_
        refine lv_iload hx hb dL_areWindows_313 (lv_at hl 6 rfl) ?_
        obtain ⟨g26, h⟩ := h
        refine xc_l (va_runV (As := [.int l2, .int l5, .int l7]) (rest := []) ⟨hx, hb, hml, hown, hts⟩ (mtq_X5_total l G base h) (cwV 3 hts gL_areWindows_X5_total rfl rfl rfl (by decide +kernel) ⟨Nat.le_of_ble_eq_true rfl, Nat.le_of_ble_eq_true rfl⟩) (xp_V hbase hh hK hX hS (ci := 5) g26 (by decide) rfl) rfl rfl hl.1 rfl (lv_room (Nat.le_of_ble_eq_true rfl)) dL_areWindows_315 ⟨Nat.le_of_ble_eq_true rfl, Nat.le_of_ble_eq_true rfl⟩) hS (fun r27 m28 H locs h hh hS => ?_)
        refine lv_lstore (lv' := [(11, .long r27), (10, .int s0), (0, .ref l0), (1, .ref l1), (2, .int l2), (5, .int l5), (6, .int l6), (7, .int l7), (9, .int l9)]) hx hb dL_areWindows_318 hl (by decide) rfl (fun ls hl => ?_)
        refine lv_iload hx hb dL_areWindows_320 (lv_at hl 1 rfl) ?_
        refine lv_if_eq (tgt := 378) hx hb dL_areWindows_322 (by decide) (fun c29 => ?_) (fun c29 => ?_)
        · replace h := h.1 c29
          exact bk_L_areWindows_378 C0 hl9  _ _ _ _ _ _ _ _ _ _ h hh hS (lv_sub hl [2, 3, 4, 5, 6, 7] rfl)
        · replace h := h.2 c29
          refine lv_lload hx hb dL_areWindows_325 (lv_at hl 0 rfl) ?_
          refine lv_aload_n hx hb dL_areWindows_327 rfl (lv_at hl 2 rfl) ?_
          refine lv_iload_n hx hb dL_areWindows_328 rfl (lv_at hl 4 rfl) ?_
          refine lv_iload hx hb dL_areWindows_329 (lv_at hl 5 rfl) ?_
          refine lv_iload hx hb dL_areWindows_331 (lv_at hl 6 rfl) ?_
          obtain ⟨g56, h⟩ := h
          refine xc_l (va_runV (As := [.int l2, .int l5, .int l6]) (rest := [.long r27]) ⟨hx, hb, hml, hown, hts⟩ (mtq_X5_total l G base h) (cwV 3 hts gL_areWindows_X5_total rfl rfl rfl (by decide +kernel) ⟨Nat.le_of_ble_eq_true rfl, Nat.le_of_ble_eq_true rfl⟩) (xp_V hbase hh hK hX hS (ci := 5) g56 (by decide) rfl) rfl rfl hl.1 rfl (lv_room (Nat.le_of_ble_eq_true rfl)) dL_areWindows_333 ⟨Nat.le_of_ble_eq_true rfl, Nat.le_of_ble_eq_true rfl⟩) hS (fun r57 m58 H locs h hh hS => ?_)
          refine lv_aload_n hx hb dL_areWindows_336 rfl (lv_at hl 2 rfl) ?_
          refine lv_iload_n hx hb dL_areWindows_337 rfl (lv_at hl 4 rfl) ?_
          refine lv_iload hx hb dL_areWindows_338 (lv_at hl 6 rfl) ?_
          refine lv_iload hx hb dL_areWindows_340 (lv_at hl 7 rfl) ?_
          obtain ⟨g59, h⟩ := h
          refine xc_l (va_runV (As := [.int l2, .int l6, .int l7]) (rest := [.long r57, .long r27]) ⟨hx, hb, hml, hown, hts⟩ (mtq_X5_total l G base h) (cwV 3 hts gL_areWindows_X5_total rfl rfl rfl (by decide +kernel) ⟨Nat.le_of_ble_eq_true rfl, Nat.le_of_ble_eq_true rfl⟩) (xp_V hbase hh hK hX hS (ci := 5) g59 (by decide) rfl) rfl rfl hl.1 rfl (lv_room (Nat.le_of_ble_eq_true rfl)) dL_areWindows_342 ⟨Nat.le_of_ble_eq_true rfl, Nat.le_of_ble_eq_true rfl⟩) hS (fun r60 m61 H locs h hh hS => ?_)
          refine lv_ladd hx hb dL_areWindows_345 ?_
          refine W.lcmp hx hb dL_areWindows_346 ?_
          refine lv_if_ne (tgt := 378) hx hb dL_areWindows_347 (by decide) (fun c62 => ?_) (fun c62 => ?_)
          · replace h := h.1 c62
            exact bk_L_areWindows_378 C0 hl9  _ _ _ _ _ _ _ _ _ _ h hh hS (lv_sub hl [2, 3, 4, 5, 6, 7] rfl)
          · replace h := h.2 c62
            refine lv_iload hx hb dL_areWindows_350 (lv_at hl 5 rfl) ?_
            refine lv_aload_n hx hb dL_areWindows_352 rfl (lv_at hl 3 rfl) ?_
            refine lv_bipush (v := 6) hx hb dL_areWindows_353 (by decide) ?_
            obtain ⟨g63, h⟩ := h
            obtain ⟨g64, h⟩ := h
            refine xr_iald hx hb hK hh g63 g64 dL_areWindows_355 ?_
            refine lv_icmp_lt (tgt := 374) hx hb dL_areWindows_356 (by decide) (fun c65 => ?_) (fun c65 => ?_)
            · replace h := h.1 c65
              exact bk_L_areWindows_374 C0 hl9  _ _ _ _ _ _ _ _ _ _ h hh hS (lv_sub hl [2, 3, 4, 5, 6, 7] rfl)
            · replace h := h.2 c65
              refine lv_aload_n hx hb dL_areWindows_359 rfl (lv_at hl 2 rfl) ?_
              refine lv_iload_n hx hb dL_areWindows_360 rfl (lv_at hl 4 rfl) ?_
              refine lv_iload hx hb dL_areWindows_361 (lv_at hl 5 rfl) ?_
              refine lv_iload hx hb dL_areWindows_363 (lv_at hl 7 rfl) ?_
              obtain ⟨g66, h⟩ := h
              refine xc_l (va_runV (As := [.int l2, .int l5, .int l7]) (rest := []) ⟨hx, hb, hml, hown, hts⟩ (mtq_X5_totalByPoints l G base h) (cwV 3 hts gL_areWindows_X5_totalByPoints rfl rfl rfl (by decide +kernel) ⟨Nat.le_of_ble_eq_true rfl, Nat.le_of_ble_eq_true rfl⟩) (xp_V hbase hh hK hX hS (ci := 5) g66 (by decide) rfl) rfl rfl hl.1 rfl (lv_room (Nat.le_of_ble_eq_true rfl)) dL_areWindows_365 ⟨Nat.le_of_ble_eq_true rfl, Nat.le_of_ble_eq_true rfl⟩) hS (fun r67 m68 H locs h hh hS => ?_)
              refine lv_lload hx hb dL_areWindows_368 (lv_at hl 0 rfl) ?_
              refine W.lcmp hx hb dL_areWindows_370 ?_
              refine lv_if_ne (tgt := 378) hx hb dL_areWindows_371 (by decide) (fun c69 => ?_) (fun c69 => ?_)
              · replace h := h.1 c69
                exact bk_L_areWindows_378 C0 hl9  _ _ _ _ _ _ _ _ _ _ h hh hS (lv_sub hl [2, 3, 4, 5, 6, 7] rfl)
              · replace h := h.2 c69
                exact bk_L_areWindows_374 C0 hl9  _ _ _ _ _ _ _ _ _ _ h hh hS (lv_sub hl [2, 3, 4, 5, 6, 7] rfl)
      · replace h := h.2 c25
        refine lv_iload hx hb dL_areWindows_306 (lv_at hl 0 rfl) ?_
        exact (xe_z hx hb hr hlocks hbase hh hK hX hS h.1 h.2 (Nat.le_of_ble_eq_true rfl) (Nat.le_of_ble_eq_true rfl) dL_areWindows_308)

set_option maxHeartbeats 4000000 in
set_option maxRecDepth 100000 in
theorem bk_L_areWindows_276 {p : Program} {l : Launch} {e : Env} {s : State} {m : MethodId} {args : Array Value} {below : List Frame} {meth : Method} {c : Code} {G : GG} {base : Nat} (C0 : BC p s m args meth c G base RL cL_areWindows 20 (some .boolean) wsL_areWindows) (hl9 : l.stackTraces = false) {Q : Int32 → MM → Prop} : ∀ (l0 : Nat) (l1 : Nat) (l2 : Int32) (l5 : Int32) (l6 : Int32) (l7 : Int32) (l9 : Int32) (m0 : MM) (H : Heap) (locs : List Loc) (ls : Array Slot), wp_L_areWindows_276 Q l0 l1 l2 l5 l6 l7 l9 m0 → hp G (xA base) m0 H → va_S (xA base) s.heap H locs → lv_has ls 20 [(0, .ref l0), (1, .ref l1), (2, .int l2), (5, .int l5), (6, .int l6), (7, .int l7), (9, .int l9)] → W p l e ({ frames := 9, cells := 0, slots := 0, locals := 209 } : Room) s m args below meth c H locs 0 0 (MQ below (va_Qi Q (HB G base) (xA base)) args s 0 0 (xA base)) (F0 m 276 ls []) := by
  obtain ⟨hx, hb, hr, hml, hown, hts, hlocks, hK, hbase, hX⟩ := id C0
  intro l0 l1 l2 l5 l6 l7 l9 m0 H locs ls h hh hS hl
  unfold wp_L_areWindows_276 at h
  refine lv_iconst (v := 0) hx hb dL_areWindows_276 (by decide) ?_
  exact bk_L_areWindows_277 C0 hl9  _ _ _ _ _ _ _ _ _ _ _ _ h hh hS (lv_sub hl [0, 1, 2, 3, 4, 5, 6] rfl)

set_option maxHeartbeats 4000000 in
set_option maxRecDepth 100000 in
theorem bk_L_areWindows_205 {p : Program} {l : Launch} {e : Env} {s : State} {m : MethodId} {args : Array Value} {below : List Frame} {meth : Method} {c : Code} {G : GG} {base : Nat} (C0 : BC p s m args meth c G base RL cL_areWindows 20 (some .boolean) wsL_areWindows) (hl9 : l.stackTraces = false) {Q : Int32 → MM → Prop} {K : Nat → Nat → Int32 → Int32 → Int32 → Int32 → Int32 → Int32 → Int64 → MM → Prop} (hK9 : ∀ (l0 : Nat) (l1 : Nat) (l2 : Int32) (l5 : Int32) (l6 : Int32) (l7 : Int32) (l8 : Int32) (l9 : Int32) (l10 : Int64) (m0 : MM) (H : Heap) (locs : List Loc) (ls : Array Slot), K l0 l1 l2 l5 l6 l7 l8 l9 l10 m0 → hp G (xA base) m0 H → va_S (xA base) s.heap H locs → lv_has ls 20 [(0, .ref l0), (1, .ref l1), (2, .int l2), (5, .int l5), (6, .int l6), (7, .int l7), (8, .int l8), (9, .int l9), (10, .long l10)] → W p l e ({ frames := 9, cells := 0, slots := 0, locals := 209 } : Room) s m args below meth c H locs 0 0 (MQ below (va_Qi Q (HB G base) (xA base)) args s 0 0 (xA base)) (F0 m 116 ls [])) : ∀ (l0 : Nat) (l1 : Nat) (l2 : Int32) (l5 : Int32) (l6 : Int32) (l7 : Int32) (l8 : Int32) (l10 : Int64) (l12 : Int32) (s0 : Int32) (m0 : MM) (H : Heap) (locs : List Loc) (ls : Array Slot), wp_L_areWindows_205 Q K l0 l1 l2 l5 l6 l7 l8 l10 l12 s0 m0 → hp G (xA base) m0 H → va_S (xA base) s.heap H locs → lv_has ls 20 [(0, .ref l0), (1, .ref l1), (2, .int l2), (5, .int l5), (6, .int l6), (7, .int l7), (8, .int l8), (10, .long l10), (12, .int l12)] → W p l e ({ frames := 9, cells := 0, slots := 0, locals := 209 } : Room) s m args below meth c H locs 0 0 (MQ below (va_Qi Q (HB G base) (xA base)) args s 0 0 (xA base)) (F0 m 205 ls [.int s0]) := by
  obtain ⟨hx, hb, hr, hml, hown, hts, hlocks, hK, hbase, hX⟩ := id C0
  intro l0 l1 l2 l5 l6 l7 l8 l10 l12 s0 m0 H locs ls h hh hS hl
  unfold wp_L_areWindows_205 at h
  refine lv_istore (lv' := [(9, .int s0), (0, .ref l0), (1, .ref l1), (2, .int l2), (5, .int l5), (6, .int l6), (7, .int l7), (8, .int l8), (10, .long l10), (12, .int l12)]) hx hb dL_areWindows_205 hl (by decide) rfl (fun ls hl => ?_)
  refine lv_lload hx hb dL_areWindows_207 (lv_at hl 8 rfl) ?_
  refine lv_iload hx hb dL_areWindows_209 (lv_at hl 9 rfl) ?_
  refine xc_i (va_runS (As := [.int l12]) (rest := [.long l10]) ⟨hx, hb, hml, hown, hts⟩ (mt_L_length l hl9 G base h) (va_cwS 1 hts gL_areWindows_L_length rfl rfl rfl (by decide +kernel) ⟨Nat.le_of_ble_eq_true rfl, Nat.le_of_ble_eq_true rfl⟩) (xp_S hbase hh hK hX hS) rfl rfl hl.1 rfl (lv_room (Nat.le_of_ble_eq_true rfl)) dL_areWindows_211 ⟨Nat.le_of_ble_eq_true rfl, Nat.le_of_ble_eq_true rfl⟩) hS (fun r85 m86 H locs h hh hS => ?_)
  refine lv_i2l hx hb dL_areWindows_214 rfl ?_
  refine lv_ladd hx hb dL_areWindows_215 ?_
  refine lv_topl (fun x87 ex87 => ?_)
  replace h := h x87 ex87
  refine lv_lstore (lv' := [(10, .long x87), (9, .int s0), (0, .ref l0), (1, .ref l1), (2, .int l2), (5, .int l5), (6, .int l6), (7, .int l7), (8, .int l8), (12, .int l12)]) hx hb dL_areWindows_216 hl (by decide) rfl (fun ls hl => ?_)
  obtain ⟨x88, ex88⟩ : ∃ y : Int32, y = l8 + 1 := ⟨_, rfl⟩
  replace h := h x88 ex88
  refine lv_iinc (v := x88) (lv' := [(8, .int x88), (10, .long x87), (9, .int s0), (0, .ref l0), (1, .ref l1), (2, .int l2), (5, .int l5), (6, .int l6), (7, .int l7), (12, .int l12)]) hx hb dL_areWindows_218 hl (k := 8) rfl (by rw [ex88]; rfl) (by decide) rfl (fun ls hl => ?_)
  refine lv_goto (tgt := 116) hx hb dL_areWindows_221 (by decide) ?_
  exact hK9 _ _ _ _ _ _ _ _ _ _ _ _ _ h hh hS (lv_sub hl [3, 4, 5, 6, 7, 8, 0, 2, 1] rfl)

set_option maxHeartbeats 4000000 in
set_option maxRecDepth 100000 in
theorem bk_L_areWindows_204 {p : Program} {l : Launch} {e : Env} {s : State} {m : MethodId} {args : Array Value} {below : List Frame} {meth : Method} {c : Code} {G : GG} {base : Nat} (C0 : BC p s m args meth c G base RL cL_areWindows 20 (some .boolean) wsL_areWindows) (hl9 : l.stackTraces = false) {Q : Int32 → MM → Prop} {K : Nat → Nat → Int32 → Int32 → Int32 → Int32 → Int32 → Int32 → Int64 → MM → Prop} (hK9 : ∀ (l0 : Nat) (l1 : Nat) (l2 : Int32) (l5 : Int32) (l6 : Int32) (l7 : Int32) (l8 : Int32) (l9 : Int32) (l10 : Int64) (m0 : MM) (H : Heap) (locs : List Loc) (ls : Array Slot), K l0 l1 l2 l5 l6 l7 l8 l9 l10 m0 → hp G (xA base) m0 H → va_S (xA base) s.heap H locs → lv_has ls 20 [(0, .ref l0), (1, .ref l1), (2, .int l2), (5, .int l5), (6, .int l6), (7, .int l7), (8, .int l8), (9, .int l9), (10, .long l10)] → W p l e ({ frames := 9, cells := 0, slots := 0, locals := 209 } : Room) s m args below meth c H locs 0 0 (MQ below (va_Qi Q (HB G base) (xA base)) args s 0 0 (xA base)) (F0 m 116 ls [])) : ∀ (l0 : Nat) (l1 : Nat) (l2 : Int32) (l5 : Int32) (l6 : Int32) (l7 : Int32) (l8 : Int32) (l10 : Int64) (l12 : Int32) (m0 : MM) (H : Heap) (locs : List Loc) (ls : Array Slot), wp_L_areWindows_204 Q K l0 l1 l2 l5 l6 l7 l8 l10 l12 m0 → hp G (xA base) m0 H → va_S (xA base) s.heap H locs → lv_has ls 20 [(0, .ref l0), (1, .ref l1), (2, .int l2), (5, .int l5), (6, .int l6), (7, .int l7), (8, .int l8), (10, .long l10), (12, .int l12)] → W p l e ({ frames := 9, cells := 0, slots := 0, locals := 209 } : Room) s m args below meth c H locs 0 0 (MQ below (va_Qi Q (HB G base) (xA base)) args s 0 0 (xA base)) (F0 m 204 ls []) := by
  obtain ⟨hx, hb, hr, hml, hown, hts, hlocks, hK, hbase, hX⟩ := id C0
  intro l0 l1 l2 l5 l6 l7 l8 l10 l12 m0 H locs ls h hh hS hl
  unfold wp_L_areWindows_204 at h
  refine lv_iconst (v := 0) hx hb dL_areWindows_204 (by decide) ?_
  exact bk_L_areWindows_205 C0 hl9  (K := K) hK9 _ _ _ _ _ _ _ _ _ _ _ _ _ _ h hh hS (lv_sub hl [0, 1, 2, 3, 4, 5, 6, 7, 8] rfl)

set_option maxHeartbeats 4000000 in
set_option maxRecDepth 100000 in
theorem bk_L_areWindows_182 {p : Program} {l : Launch} {e : Env} {s : State} {m : MethodId} {args : Array Value} {below : List Frame} {meth : Method} {c : Code} {G : GG} {base : Nat} (C0 : BC p s m args meth c G base RL cL_areWindows 20 (some .boolean) wsL_areWindows) (hl9 : l.stackTraces = false) {Q : Int32 → MM → Prop} {K : Nat → Nat → Int32 → Int32 → Int32 → Int32 → Int32 → Int32 → Int64 → MM → Prop} (hK9 : ∀ (l0 : Nat) (l1 : Nat) (l2 : Int32) (l5 : Int32) (l6 : Int32) (l7 : Int32) (l8 : Int32) (l9 : Int32) (l10 : Int64) (m0 : MM) (H : Heap) (locs : List Loc) (ls : Array Slot), K l0 l1 l2 l5 l6 l7 l8 l9 l10 m0 → hp G (xA base) m0 H → va_S (xA base) s.heap H locs → lv_has ls 20 [(0, .ref l0), (1, .ref l1), (2, .int l2), (5, .int l5), (6, .int l6), (7, .int l7), (8, .int l8), (9, .int l9), (10, .long l10)] → W p l e ({ frames := 9, cells := 0, slots := 0, locals := 209 } : Room) s m args below meth c H locs 0 0 (MQ below (va_Qi Q (HB G base) (xA base)) args s 0 0 (xA base)) (F0 m 116 ls [])) : ∀ (l0 : Nat) (l1 : Nat) (l2 : Int32) (l5 : Int32) (l6 : Int32) (l7 : Int32) (l8 : Int32) (l9 : Int32) (l10 : Int64) (s0 : Int32) (m0 : MM) (H : Heap) (locs : List Loc) (ls : Array Slot), wp_L_areWindows_182 Q K l0 l1 l2 l5 l6 l7 l8 l9 l10 s0 m0 → hp G (xA base) m0 H → va_S (xA base) s.heap H locs → lv_has ls 20 [(0, .ref l0), (1, .ref l1), (2, .int l2), (5, .int l5), (6, .int l6), (7, .int l7), (8, .int l8), (9, .int l9), (10, .long l10)] → W p l e ({ frames := 9, cells := 0, slots := 0, locals := 209 } : Room) s m args below meth c H locs 0 0 (MQ below (va_Qi Q (HB G base) (xA base)) args s 0 0 (xA base)) (F0 m 182 ls [.int s0]) := by
  obtain ⟨hx, hb, hr, hml, hown, hts, hlocks, hK, hbase, hX⟩ := id C0
  intro l0 l1 l2 l5 l6 l7 l8 l9 l10 s0 m0 H locs ls h hh hS hl
  unfold wp_L_areWindows_182 at h
  refine lv_istore (lv' := [(12, .int s0), (0, .ref l0), (1, .ref l1), (2, .int l2), (5, .int l5), (6, .int l6), (7, .int l7), (8, .int l8), (9, .int l9), (10, .long l10)]) hx hb dL_areWindows_182 hl (by decide) rfl (fun ls hl => ?_)
  refine lv_iload hx hb dL_areWindows_184 (lv_at hl 8 rfl) ?_
  refine lv_if_eq (tgt := 204) hx hb dL_areWindows_186 (by decide) (fun c84 => ?_) (fun c84 => ?_)
  · replace h := h.1 c84
    exact bk_L_areWindows_204 C0 hl9  (K := K) hK9 _ _ _ _ _ _ _ _ _ _ _ _ _ h hh hS (lv_sub hl [1, 2, 3, 4, 5, 6, 7, 9, 0] rfl)
  · replace h := h.2 c84
    refine lv_aload_n hx hb dL_areWindows_189 rfl (lv_at hl 2 rfl) ?_
    refine lv_iload hx hb dL_areWindows_190 (lv_at hl 0 rfl) ?_
    refine lv_lload hx hb dL_areWindows_192 (lv_at hl 9 rfl) ?_
    refine xc_i (va_runS (As := [.ref l1, .int s0, .long l10]) (rest := []) ⟨hx, hb, hml, hown, hts⟩ (mt_L_isGone l hl9 G base h) (va_cwS 3 hts gL_areWindows_L_isGone rfl rfl rfl (by decide +kernel) ⟨Nat.le_of_ble_eq_true rfl, Nat.le_of_ble_eq_true rfl⟩) (xp_S hbase hh hK hX hS) rfl rfl hl.1 rfl (lv_room (Nat.le_of_ble_eq_true rfl)) dL_areWindows_194 ⟨Nat.le_of_ble_eq_true rfl, Nat.le_of_ble_eq_true rfl⟩) hS (fun r89 m90 H locs h hh hS => ?_)
    refine lv_if_ne (tgt := 204) hx hb dL_areWindows_197 (by decide) (fun c91 => ?_) (fun c91 => ?_)
    · replace h := h.1 c91
      exact bk_L_areWindows_204 C0 hl9  (K := K) hK9 _ _ _ _ _ _ _ _ _ _ _ _ _ h hh hS (lv_sub hl [1, 2, 3, 4, 5, 6, 7, 9, 0] rfl)
    · replace h := h.2 c91
      refine lv_iconst (v := 1) hx hb dL_areWindows_200 (by decide) ?_
      refine lv_goto (tgt := 205) hx hb dL_areWindows_201 (by decide) ?_
      exact bk_L_areWindows_205 C0 hl9  (K := K) hK9 _ _ _ _ _ _ _ _ _ _ _ _ _ _ h hh hS (lv_sub hl [1, 2, 3, 4, 5, 6, 7, 9, 0] rfl)

set_option maxHeartbeats 4000000 in
set_option maxRecDepth 100000 in
theorem bk_L_areWindows_181 {p : Program} {l : Launch} {e : Env} {s : State} {m : MethodId} {args : Array Value} {below : List Frame} {meth : Method} {c : Code} {G : GG} {base : Nat} (C0 : BC p s m args meth c G base RL cL_areWindows 20 (some .boolean) wsL_areWindows) (hl9 : l.stackTraces = false) {Q : Int32 → MM → Prop} {K : Nat → Nat → Int32 → Int32 → Int32 → Int32 → Int32 → Int32 → Int64 → MM → Prop} (hK9 : ∀ (l0 : Nat) (l1 : Nat) (l2 : Int32) (l5 : Int32) (l6 : Int32) (l7 : Int32) (l8 : Int32) (l9 : Int32) (l10 : Int64) (m0 : MM) (H : Heap) (locs : List Loc) (ls : Array Slot), K l0 l1 l2 l5 l6 l7 l8 l9 l10 m0 → hp G (xA base) m0 H → va_S (xA base) s.heap H locs → lv_has ls 20 [(0, .ref l0), (1, .ref l1), (2, .int l2), (5, .int l5), (6, .int l6), (7, .int l7), (8, .int l8), (9, .int l9), (10, .long l10)] → W p l e ({ frames := 9, cells := 0, slots := 0, locals := 209 } : Room) s m args below meth c H locs 0 0 (MQ below (va_Qi Q (HB G base) (xA base)) args s 0 0 (xA base)) (F0 m 116 ls [])) : ∀ (l0 : Nat) (l1 : Nat) (l2 : Int32) (l5 : Int32) (l6 : Int32) (l7 : Int32) (l8 : Int32) (l9 : Int32) (l10 : Int64) (m0 : MM) (H : Heap) (locs : List Loc) (ls : Array Slot), wp_L_areWindows_181 Q K l0 l1 l2 l5 l6 l7 l8 l9 l10 m0 → hp G (xA base) m0 H → va_S (xA base) s.heap H locs → lv_has ls 20 [(0, .ref l0), (1, .ref l1), (2, .int l2), (5, .int l5), (6, .int l6), (7, .int l7), (8, .int l8), (9, .int l9), (10, .long l10)] → W p l e ({ frames := 9, cells := 0, slots := 0, locals := 209 } : Room) s m args below meth c H locs 0 0 (MQ below (va_Qi Q (HB G base) (xA base)) args s 0 0 (xA base)) (F0 m 181 ls []) := by
  obtain ⟨hx, hb, hr, hml, hown, hts, hlocks, hK, hbase, hX⟩ := id C0
  intro l0 l1 l2 l5 l6 l7 l8 l9 l10 m0 H locs ls h hh hS hl
  unfold wp_L_areWindows_181 at h
  refine lv_iconst (v := 1) hx hb dL_areWindows_181 (by decide) ?_
  exact bk_L_areWindows_182 C0 hl9  (K := K) hK9 _ _ _ _ _ _ _ _ _ _ _ _ _ _ h hh hS (lv_sub hl [0, 1, 2, 3, 4, 5, 6, 7, 8] rfl)

set_option maxHeartbeats 4000000 in
set_option maxRecDepth 100000 in
theorem bk_L_areWindows_153 {p : Program} {l : Launch} {e : Env} {s : State} {m : MethodId} {args : Array Value} {below : List Frame} {meth : Method} {c : Code} {G : GG} {base : Nat} (C0 : BC p s m args meth c G base RL cL_areWindows 20 (some .boolean) wsL_areWindows) (hl9 : l.stackTraces = false) {Q : Int32 → MM → Prop} {K : Nat → Nat → Int32 → Int32 → Int32 → Int32 → Int32 → Int32 → Int64 → MM → Prop} (hK9 : ∀ (l0 : Nat) (l1 : Nat) (l2 : Int32) (l5 : Int32) (l6 : Int32) (l7 : Int32) (l8 : Int32) (l9 : Int32) (l10 : Int64) (m0 : MM) (H : Heap) (locs : List Loc) (ls : Array Slot), K l0 l1 l2 l5 l6 l7 l8 l9 l10 m0 → hp G (xA base) m0 H → va_S (xA base) s.heap H locs → lv_has ls 20 [(0, .ref l0), (1, .ref l1), (2, .int l2), (5, .int l5), (6, .int l6), (7, .int l7), (8, .int l8), (9, .int l9), (10, .long l10)] → W p l e ({ frames := 9, cells := 0, slots := 0, locals := 209 } : Room) s m args below meth c H locs 0 0 (MQ below (va_Qi Q (HB G base) (xA base)) args s 0 0 (xA base)) (F0 m 116 ls [])) : ∀ (l0 : Nat) (l1 : Nat) (l2 : Int32) (l5 : Int32) (l6 : Int32) (l7 : Int32) (l8 : Int32) (l9 : Int32) (l10 : Int64) (m0 : MM) (H : Heap) (locs : List Loc) (ls : Array Slot), wp_L_areWindows_153 Q K l0 l1 l2 l5 l6 l7 l8 l9 l10 m0 → hp G (xA base) m0 H → va_S (xA base) s.heap H locs → lv_has ls 20 [(0, .ref l0), (1, .ref l1), (2, .int l2), (5, .int l5), (6, .int l6), (7, .int l7), (8, .int l8), (9, .int l9), (10, .long l10)] → W p l e ({ frames := 9, cells := 0, slots := 0, locals := 209 } : Room) s m args below meth c H locs 0 0 (MQ below (va_Qi Q (HB G base) (xA base)) args s 0 0 (xA base)) (F0 m 153 ls []) := by
  obtain ⟨hx, hb, hr, hml, hown, hts, hlocks, hK, hbase, hX⟩ := id C0
  intro l0 l1 l2 l5 l6 l7 l8 l9 l10 m0 H locs ls h hh hS hl
  unfold wp_L_areWindows_153 at h
  have q1 : (Cond.constantLong RL 92 (3600)).before _ s = true := hts _ (List.mem_cons_of_mem _ (List.mem_append_left _ (List.mem_append_left _ (List.mem_append_left _ (List.mem_append_left _ (List.mem_append_left _ (List.mem_append_left _ (List.mem_append_left _ (List.mem_append_left _ (List.mem_append_left _ (List.mem_append_left _ (List.mem_of_getElem? (i := 1) rfl))))))))))))
  refine lv_lload hx hb dL_areWindows_153 (lv_at hl 8 rfl) ?_
  refine lv_ldc2 hx hb hown q1 dL_areWindows_155 ?_
  refine lv_lrem hx hb dL_areWindows_158 (by decide) ?_
  refine lv_lconst (v := 0) hx hb dL_areWindows_159 (by decide) ?_
  refine W.lcmp hx hb dL_areWindows_160 ?_
  refine lv_if_ne (tgt := 181) hx hb dL_areWindows_161 (by decide) (fun c83 => ?_) (fun c83 => ?_)
  · replace h := h.1 c83
    exact bk_L_areWindows_181 C0 hl9  (K := K) hK9 _ _ _ _ _ _ _ _ _ _ _ _ _ h hh hS (lv_sub hl [0, 1, 2, 3, 4, 5, 6, 7, 8] rfl)
  · replace h := h.2 c83
    refine lv_lload hx hb dL_areWindows_164 (lv_at hl 8 rfl) ?_
    refine lv_ldc2 hx hb hown q1 dL_areWindows_166 ?_
    refine lv_ladd hx hb dL_areWindows_169 ?_
    refine lv_iload hx hb dL_areWindows_170 (lv_at hl 5 rfl) ?_
    refine lv_i2l hx hb dL_areWindows_172 rfl ?_
    refine W.lcmp hx hb dL_areWindows_173 ?_
    refine lv_if_gt (tgt := 181) hx hb dL_areWindows_174 (by decide) (fun c92 => ?_) (fun c92 => ?_)
    · replace h := h.1 c92
      exact bk_L_areWindows_181 C0 hl9  (K := K) hK9 _ _ _ _ _ _ _ _ _ _ _ _ _ h hh hS (lv_sub hl [0, 1, 2, 3, 4, 5, 6, 7, 8] rfl)
    · replace h := h.2 c92
      refine lv_iconst (v := 2) hx hb dL_areWindows_177 (by decide) ?_
      refine lv_goto (tgt := 182) hx hb dL_areWindows_178 (by decide) ?_
      exact bk_L_areWindows_182 C0 hl9  (K := K) hK9 _ _ _ _ _ _ _ _ _ _ _ _ _ _ h hh hS (lv_sub hl [0, 1, 2, 3, 4, 5, 6, 7, 8] rfl)

set_option maxHeartbeats 4000000 in
set_option maxRecDepth 100000 in
theorem bk_L_areWindows_116 {p : Program} {l : Launch} {e : Env} {s : State} {m : MethodId} {args : Array Value} {below : List Frame} {meth : Method} {c : Code} {G : GG} {base : Nat} (C0 : BC p s m args meth c G base RL cL_areWindows 20 (some .boolean) wsL_areWindows) (hl9 : l.stackTraces = false) {Q : Int32 → MM → Prop} : ∀ (n : Nat) (l0 : Nat) (l1 : Nat) (l2 : Int32) (l5 : Int32) (l6 : Int32) (l7 : Int32) (l8 : Int32) (l9 : Int32) (l10 : Int64) (m0 : MM) (H : Heap) (locs : List Loc) (ls : Array Slot), wp_L_areWindows_116 Q n l0 l1 l2 l5 l6 l7 l8 l9 l10 m0 → hp G (xA base) m0 H → va_S (xA base) s.heap H locs → lv_has ls 20 [(0, .ref l0), (1, .ref l1), (2, .int l2), (5, .int l5), (6, .int l6), (7, .int l7), (8, .int l8), (9, .int l9), (10, .long l10)] → W p l e ({ frames := 9, cells := 0, slots := 0, locals := 209 } : Room) s m args below meth c H locs 0 0 (MQ below (va_Qi Q (HB G base) (xA base)) args s 0 0 (xA base)) (F0 m 116 ls []) := by
  obtain ⟨hx, hb, hr, hml, hown, hts, hlocks, hK, hbase, hX⟩ := id C0
  intro n
  induction n with
  | zero =>
    intro l0 l1 l2 l5 l6 l7 l8 l9 l10 m0 H locs ls h
    unfold wp_L_areWindows_116 at h
    exact h.elim
  | succ n ih =>
    intro l0 l1 l2 l5 l6 l7 l8 l9 l10 m0 H locs ls h hh hS hl
    unfold wp_L_areWindows_116 at h
    have q1 : (Cond.constantLong RL 90 (86400)).before _ s = true := hts _ (List.mem_cons_of_mem _ (List.mem_append_left _ (List.mem_append_left _ (List.mem_append_left _ (List.mem_append_left _ (List.mem_append_left _ (List.mem_append_left _ (List.mem_append_left _ (List.mem_append_left _ (List.mem_append_left _ (List.mem_append_left _ (List.mem_of_getElem? (i := 0) rfl))))))))))))
    refine lv_lload hx hb dL_areWindows_116 (lv_at hl 8 rfl) ?_
    refine lv_iload hx hb dL_areWindows_118 (lv_at hl 5 rfl) ?_
    refine lv_i2l hx hb dL_areWindows_120 rfl ?_
    refine W.lcmp hx hb dL_areWindows_121 ?_
    refine lv_if_ge (tgt := 224) hx hb dL_areWindows_122 (by decide) (fun c12 => ?_) (fun c12 => ?_)
    · replace h := h.1 c12
      refine lv_aload_n hx hb dL_areWindows_224 rfl (lv_at hl 0 rfl) ?_
      refine lv_iload hx hb dL_areWindows_225 (lv_at hl 3 rfl) ?_
      refine lv_iload hx hb dL_areWindows_227 (lv_at hl 5 rfl) ?_
      obtain ⟨g13, h⟩ := h
      refine xc_i (va_runV (As := [.int l5, .int l7]) (rest := []) ⟨hx, hb, hml, hown, hts⟩ (mtq_X5_parts l G base h) (cwV 2 hts gL_areWindows_X5_parts rfl rfl rfl (by decide +kernel) ⟨Nat.le_of_ble_eq_true rfl, Nat.le_of_ble_eq_true rfl⟩) (xp_V hbase hh hK hX hS (ci := 5) g13 (by decide) rfl) rfl rfl hl.1 rfl (lv_room (Nat.le_of_ble_eq_true rfl)) dL_areWindows_229 ⟨Nat.le_of_ble_eq_true rfl, Nat.le_of_ble_eq_true rfl⟩) hS (fun r14 m15 H locs h hh hS => ?_)
      refine lv_iload hx hb dL_areWindows_232 (lv_at hl 6 rfl) ?_
      refine lv_icmp_ne (tgt := 276) hx hb dL_areWindows_234 (by decide) (fun c16 => ?_) (fun c16 => ?_)
      · replace h := h.1 c16
        exact bk_L_areWindows_276 C0 hl9  _ _ _ _ _ _ _ _ _ _ _ h hh hS (lv_sub hl [0, 1, 2, 3, 4, 5, 7] rfl)
      · replace h := h.2 c16
        refine lv_aload_n hx hb dL_areWindows_237 rfl (lv_at hl 0 rfl) ?_
        refine lv_iload hx hb dL_areWindows_238 (lv_at hl 3 rfl) ?_
        refine lv_iload hx hb dL_areWindows_240 (lv_at hl 5 rfl) ?_
        obtain ⟨g70, h⟩ := h
        refine xc_i (va_runV (As := [.int l5, .int l7]) (rest := []) ⟨hx, hb, hml, hown, hts⟩ (mtq_X5_isKnown l G base h) (cwV 2 hts gL_areWindows_X5_isKnown rfl rfl rfl (by decide +kernel) ⟨Nat.le_of_ble_eq_true rfl, Nat.le_of_ble_eq_true rfl⟩) (xp_V hbase hh hK hX hS (ci := 5) g70 (by decide) rfl) rfl rfl hl.1 rfl (lv_room (Nat.le_of_ble_eq_true rfl)) dL_areWindows_242 ⟨Nat.le_of_ble_eq_true rfl, Nat.le_of_ble_eq_true rfl⟩) hS (fun r71 m72 H locs h hh hS => ?_)
        refine lv_iload hx hb dL_areWindows_245 (lv_at hl 7 rfl) ?_
        refine lv_icmp_ne (tgt := 276) hx hb dL_areWindows_247 (by decide) (fun c73 => ?_) (fun c73 => ?_)
        · replace h := h.1 c73
          exact bk_L_areWindows_276 C0 hl9  _ _ _ _ _ _ _ _ _ _ _ h hh hS (lv_sub hl [0, 1, 2, 3, 4, 5, 7] rfl)
        · replace h := h.2 c73
          refine lv_aload_n hx hb dL_areWindows_250 rfl (lv_at hl 0 rfl) ?_
          refine lv_iload hx hb dL_areWindows_251 (lv_at hl 3 rfl) ?_
          refine lv_iload hx hb dL_areWindows_253 (lv_at hl 3 rfl) ?_
          obtain ⟨g74, h⟩ := h
          refine xc_i (va_runV (As := [.int l5, .int l5]) (rest := []) ⟨hx, hb, hml, hown, hts⟩ (mtq_X5_parts l G base h) (cwV 2 hts gL_areWindows_X5_parts rfl rfl rfl (by decide +kernel) ⟨Nat.le_of_ble_eq_true rfl, Nat.le_of_ble_eq_true rfl⟩) (xp_V hbase hh hK hX hS (ci := 5) g74 (by decide) rfl) rfl rfl hl.1 rfl (lv_room (Nat.le_of_ble_eq_true rfl)) dL_areWindows_255 ⟨Nat.le_of_ble_eq_true rfl, Nat.le_of_ble_eq_true rfl⟩) hS (fun r75 m76 H locs h hh hS => ?_)
          refine lv_if_ne (tgt := 276) hx hb dL_areWindows_258 (by decide) (fun c77 => ?_) (fun c77 => ?_)
          · replace h := h.1 c77
            exact bk_L_areWindows_276 C0 hl9  _ _ _ _ _ _ _ _ _ _ _ h hh hS (lv_sub hl [0, 1, 2, 3, 4, 5, 7] rfl)
          · replace h := h.2 c77
            refine lv_aload_n hx hb dL_areWindows_261 rfl (lv_at hl 0 rfl) ?_
            refine lv_iload hx hb dL_areWindows_262 (lv_at hl 3 rfl) ?_
            refine lv_iload hx hb dL_areWindows_264 (lv_at hl 3 rfl) ?_
            obtain ⟨g78, h⟩ := h
            refine xc_i (va_runV (As := [.int l5, .int l5]) (rest := []) ⟨hx, hb, hml, hown, hts⟩ (mtq_X5_isKnown l G base h) (cwV 2 hts gL_areWindows_X5_isKnown rfl rfl rfl (by decide +kernel) ⟨Nat.le_of_ble_eq_true rfl, Nat.le_of_ble_eq_true rfl⟩) (xp_V hbase hh hK hX hS (ci := 5) g78 (by decide) rfl) rfl rfl hl.1 rfl (lv_room (Nat.le_of_ble_eq_true rfl)) dL_areWindows_266 ⟨Nat.le_of_ble_eq_true rfl, Nat.le_of_ble_eq_true rfl⟩) hS (fun r79 m80 H locs h hh hS => ?_)
            refine lv_if_eq (tgt := 276) hx hb dL_areWindows_269 (by decide) (fun c81 => ?_) (fun c81 => ?_)
            · replace h := h.1 c81
              exact bk_L_areWindows_276 C0 hl9  _ _ _ _ _ _ _ _ _ _ _ h hh hS (lv_sub hl [0, 1, 2, 3, 4, 5, 7] rfl)
            · replace h := h.2 c81
              refine lv_iconst (v := 1) hx hb dL_areWindows_272 (by decide) ?_
              refine lv_goto (tgt := 277) hx hb dL_areWindows_273 (by decide) ?_
              exact bk_L_areWindows_277 C0 hl9  _ _ _ _ _ _ _ _ _ _ _ _ h hh hS (lv_sub hl [0, 1, 2, 3, 4, 5, 7] rfl)
    · replace h := h.2 c12
      refine lv_lload hx hb dL_areWindows_125 (lv_at hl 8 rfl) ?_
      refine lv_ldc2 hx hb hown q1 dL_areWindows_127 ?_
      refine lv_lrem hx hb dL_areWindows_130 (by decide) ?_
      refine lv_lconst (v := 0) hx hb dL_areWindows_131 (by decide) ?_
      refine W.lcmp hx hb dL_areWindows_132 ?_
      refine lv_if_ne (tgt := 153) hx hb dL_areWindows_133 (by decide) (fun c82 => ?_) (fun c82 => ?_)
      · replace h := h.1 c82
        exact bk_L_areWindows_153 C0 hl9  (K := wp_L_areWindows_116 Q n) ih _ _ _ _ _ _ _ _ _ _ _ _ _ h hh hS (lv_sub hl [0, 1, 2, 3, 4, 5, 6, 7, 8] rfl)
      · replace h := h.2 c82
        refine lv_lload hx hb dL_areWindows_136 (lv_at hl 8 rfl) ?_
        refine lv_ldc2 hx hb hown q1 dL_areWindows_138 ?_
        refine lv_ladd hx hb dL_areWindows_141 ?_
        refine lv_iload hx hb dL_areWindows_142 (lv_at hl 5 rfl) ?_
        refine lv_i2l hx hb dL_areWindows_144 rfl ?_
        refine W.lcmp hx hb dL_areWindows_145 ?_
        refine lv_if_gt (tgt := 153) hx hb dL_areWindows_146 (by decide) (fun c93 => ?_) (fun c93 => ?_)
        · replace h := h.1 c93
          exact bk_L_areWindows_153 C0 hl9  (K := wp_L_areWindows_116 Q n) ih _ _ _ _ _ _ _ _ _ _ _ _ _ h hh hS (lv_sub hl [0, 1, 2, 3, 4, 5, 6, 7, 8] rfl)
        · replace h := h.2 c93
          refine lv_iconst (v := 3) hx hb dL_areWindows_149 (by decide) ?_
          refine lv_goto (tgt := 182) hx hb dL_areWindows_150 (by decide) ?_
          exact bk_L_areWindows_182 C0 hl9  (K := wp_L_areWindows_116 Q n) ih _ _ _ _ _ _ _ _ _ _ _ _ _ _ h hh hS (lv_sub hl [0, 1, 2, 3, 4, 5, 6, 7, 8] rfl)

set_option maxHeartbeats 4000000 in
set_option maxRecDepth 100000 in
theorem bk_L_areWindows_102 {p : Program} {l : Launch} {e : Env} {s : State} {m : MethodId} {args : Array Value} {below : List Frame} {meth : Method} {c : Code} {G : GG} {base : Nat} (C0 : BC p s m args meth c G base RL cL_areWindows 20 (some .boolean) wsL_areWindows) (hl9 : l.stackTraces = false) {Q : Int32 → MM → Prop} : ∀ (l0 : Nat) (l1 : Nat) (l2 : Int32) (l5 : Int32) (l6 : Int32) (s0 : Int32) (s1 : Int32) (m0 : MM) (H : Heap) (locs : List Loc) (ls : Array Slot), wp_L_areWindows_102 Q l0 l1 l2 l5 l6 s0 s1 m0 → hp G (xA base) m0 H → va_S (xA base) s.heap H locs → lv_has ls 20 [(0, .ref l0), (1, .ref l1), (2, .int l2), (5, .int l5), (6, .int l6)] → W p l e ({ frames := 9, cells := 0, slots := 0, locals := 209 } : Room) s m args below meth c H locs 0 0 (MQ below (va_Qi Q (HB G base) (xA base)) args s 0 0 (xA base)) (F0 m 102 ls [.int s0, .int s1]) := by
  obtain ⟨hx, hb, hr, hml, hown, hts, hlocks, hK, hbase, hX⟩ := id C0
  intro l0 l1 l2 l5 l6 s0 s1 m0 H locs ls h hh hS hl
  unfold wp_L_areWindows_102 at h
  refine lv_iadd hx hb dL_areWindows_102 ?_
  refine lv_topi (fun x8 ex8 => ?_)
  replace h := h x8 ex8
  refine lv_istore (lv' := [(7, .int x8), (0, .ref l0), (1, .ref l1), (2, .int l2), (5, .int l5), (6, .int l6)]) hx hb dL_areWindows_103 hl (by decide) rfl (fun ls hl => ?_)
  refine lv_iconst (v := 0) hx hb dL_areWindows_105 (by decide) ?_
  refine lv_topi (fun x9 ex9 => ?_)
  replace h := h x9 ex9
  refine lv_istore (lv' := [(8, .int x9), (7, .int x8), (0, .ref l0), (1, .ref l1), (2, .int l2), (5, .int l5), (6, .int l6)]) hx hb dL_areWindows_106 hl (by decide) rfl (fun ls hl => ?_)
  refine lv_iconst (v := 1) hx hb dL_areWindows_108 (by decide) ?_
  refine lv_topi (fun x10 ex10 => ?_)
  replace h := h x10 ex10
  refine lv_istore (lv' := [(9, .int x10), (8, .int x9), (7, .int x8), (0, .ref l0), (1, .ref l1), (2, .int l2), (5, .int l5), (6, .int l6)]) hx hb dL_areWindows_109 hl (by decide) rfl (fun ls hl => ?_)
  refine lv_iload hx hb dL_areWindows_111 (lv_at hl 6 rfl) ?_
  refine lv_i2l hx hb dL_areWindows_113 rfl ?_
  refine lv_topl (fun x11 ex11 => ?_)
  replace h := h x11 ex11
  refine lv_lstore (lv' := [(10, .long x11), (9, .int x10), (8, .int x9), (7, .int x8), (0, .ref l0), (1, .ref l1), (2, .int l2), (5, .int l5), (6, .int l6)]) hx hb dL_areWindows_114 hl (by decide) rfl (fun ls hl => ?_)
  obtain ⟨n9, h⟩ := h
  exact bk_L_areWindows_116 C0 hl9  n9 _ _ _ _ _ _ _ _ _ _ _ _ _ h hh hS (lv_sub hl [4, 5, 6, 7, 8, 3, 2, 1, 0] rfl)

set_option maxHeartbeats 4000000 in
set_option maxRecDepth 100000 in
theorem bk_L_areWindows_53 {p : Program} {l : Launch} {e : Env} {s : State} {m : MethodId} {args : Array Value} {below : List Frame} {meth : Method} {c : Code} {G : GG} {base : Nat} (C0 : BC p s m args meth c G base RL cL_areWindows 20 (some .boolean) wsL_areWindows) (hl9 : l.stackTraces = false) {Q : Int32 → MM → Prop} : ∀ (l0 : Nat) (l1 : Nat) (l2 : Int32) (l4 : Int32) (s0 : Int32) (m0 : MM) (H : Heap) (locs : List Loc) (ls : Array Slot), wp_L_areWindows_53 Q l0 l1 l2 l4 s0 m0 → hp G (xA base) m0 H → va_S (xA base) s.heap H locs → lv_has ls 20 [(0, .ref l0), (1, .ref l1), (2, .int l2), (4, .int l4)] → W p l e ({ frames := 9, cells := 0, slots := 0, locals := 209 } : Room) s m args below meth c H locs 0 0 (MQ below (va_Qi Q (HB G base) (xA base)) args s 0 0 (xA base)) (F0 m 53 ls [.int s0]) := by
  obtain ⟨hx, hb, hr, hml, hown, hts, hlocks, hK, hbase, hX⟩ := id C0
  intro l0 l1 l2 l4 s0 m0 H locs ls h hh hS hl
  unfold wp_L_areWindows_53 at h
  refine lv_istore (lv' := [(5, .int s0), (0, .ref l0), (1, .ref l1), (2, .int l2), (4, .int l4)]) hx hb dL_areWindows_53 hl (by decide) rfl (fun ls hl => ?_)
  refine lv_iload hx hb dL_areWindows_55 (lv_at hl 0 rfl) ?_
  refine lv_iload hx hb dL_areWindows_57 (lv_at hl 4 rfl) ?_
  refine lv_sipush (v := 200) hx hb dL_areWindows_59 (by decide) ?_
  refine lv_irem hx hb dL_areWindows_62 (by decide) ?_
  refine lv_bipush (v := 60) hx hb dL_areWindows_63 (by decide) ?_
  refine lv_imul hx hb dL_areWindows_65 ?_
  refine lv_iadd hx hb dL_areWindows_66 ?_
  refine lv_topi (fun x6 ex6 => ?_)
  replace h := h x6 ex6
  refine lv_istore (lv' := [(6, .int x6), (5, .int s0), (0, .ref l0), (1, .ref l1), (2, .int l2), (4, .int l4)]) hx hb dL_areWindows_67 hl (by decide) rfl (fun ls hl => ?_)
  refine lv_iload hx hb dL_areWindows_69 (lv_at hl 0 rfl) ?_
  refine lv_iload hx hb dL_areWindows_71 (lv_at hl 5 rfl) ?_
  refine lv_iconst (v := 5) hx hb dL_areWindows_73 (by decide) ?_
  refine lv_irem hx hb dL_areWindows_74 (by decide) ?_
  refine lv_if_ne (tgt := 92) hx hb dL_areWindows_75 (by decide) (fun c7 => ?_) (fun c7 => ?_)
  · replace h := h.1 c7
    refine lv_iload hx hb dL_areWindows_92 (lv_at hl 5 rfl) ?_
    refine lv_iconst (v := 5) hx hb dL_areWindows_94 (by decide) ?_
    refine lv_idiv hx hb dL_areWindows_95 (by decide) ?_
    refine lv_bipush (v := 100) hx hb dL_areWindows_96 (by decide) ?_
    refine lv_irem hx hb dL_areWindows_98 (by decide) ?_
    refine lv_bipush (v := 60) hx hb dL_areWindows_99 (by decide) ?_
    refine lv_imul hx hb dL_areWindows_101 ?_
    exact bk_L_areWindows_102 C0 hl9  _ _ _ _ _ _ _ _ _ _ _ h hh hS (lv_sub hl [2, 3, 4, 1, 0] rfl)
  · replace h := h.2 c7
    refine lv_iload hx hb dL_areWindows_78 (lv_at hl 5 rfl) ?_
    refine lv_iconst (v := 5) hx hb dL_areWindows_80 (by decide) ?_
    refine lv_idiv hx hb dL_areWindows_81 (by decide) ?_
    refine lv_bipush (v := 50) hx hb dL_areWindows_82 (by decide) ?_
    refine lv_irem hx hb dL_areWindows_84 (by decide) ?_
    refine lv_sipush (v := 3600) hx hb dL_areWindows_85 (by decide) ?_
    refine lv_imul hx hb dL_areWindows_88 ?_
    refine lv_goto (tgt := 102) hx hb dL_areWindows_89 (by decide) ?_
    exact bk_L_areWindows_102 C0 hl9  _ _ _ _ _ _ _ _ _ _ _ h hh hS (lv_sub hl [2, 3, 4, 1, 0] rfl)

set_option maxHeartbeats 4000000 in
set_option maxRecDepth 100000 in
theorem bk_L_areWindows_40 {p : Program} {l : Launch} {e : Env} {s : State} {m : MethodId} {args : Array Value} {below : List Frame} {meth : Method} {c : Code} {G : GG} {base : Nat} (C0 : BC p s m args meth c G base RL cL_areWindows 20 (some .boolean) wsL_areWindows) (hl9 : l.stackTraces = false) {Q : Int32 → MM → Prop} : ∀ (l0 : Nat) (l1 : Nat) (l2 : Int32) (l4 : Int32) (s0 : Int32) (m0 : MM) (H : Heap) (locs : List Loc) (ls : Array Slot), wp_L_areWindows_40 Q l0 l1 l2 l4 s0 m0 → hp G (xA base) m0 H → va_S (xA base) s.heap H locs → lv_has ls 20 [(0, .ref l0), (1, .ref l1), (2, .int l2), (4, .int l4)] → W p l e ({ frames := 9, cells := 0, slots := 0, locals := 209 } : Room) s m args below meth c H locs 0 0 (MQ below (va_Qi Q (HB G base) (xA base)) args s 0 0 (xA base)) (F0 m 40 ls [.int s0]) := by
  obtain ⟨hx, hb, hr, hml, hown, hts, hlocks, hK, hbase, hX⟩ := id C0
  intro l0 l1 l2 l4 s0 m0 H locs ls h hh hS hl
  unfold wp_L_areWindows_40 at h
  refine lv_istore (lv' := [(5, .int s0), (0, .ref l0), (1, .ref l1), (2, .int l2), (4, .int l4)]) hx hb dL_areWindows_40 hl (by decide) rfl (fun ls hl => ?_)
  refine lv_iload hx hb dL_areWindows_42 (lv_at hl 0 rfl) ?_
  refine lv_if_ge (tgt := 51) hx hb dL_areWindows_44 (by decide) (fun c5 => ?_) (fun c5 => ?_)
  · replace h := h.1 c5
    refine lv_iload hx hb dL_areWindows_51 (lv_at hl 0 rfl) ?_
    exact bk_L_areWindows_53 C0 hl9  _ _ _ _ _ _ _ _ _ h hh hS (lv_sub hl [1, 2, 3, 4] rfl)
  · replace h := h.2 c5
    refine lv_iconst (v := 0) hx hb dL_areWindows_47 (by decide) ?_
    refine lv_goto (tgt := 53) hx hb dL_areWindows_48 (by decide) ?_
    exact bk_L_areWindows_53 C0 hl9  _ _ _ _ _ _ _ _ _ h hh hS (lv_sub hl [1, 2, 3, 4] rfl)

set_option maxHeartbeats 4000000 in
set_option maxRecDepth 100000 in
theorem mt_L_areWindows (l : Launch) (hl9 : l.stackTraces = false) (G : GG) (base : Nat) {p1 : Nat} {p2 : Nat} {p3 : Int32} {p4 : Int32} {p5 : Int32} {m0 : MM} {Q : Int32 → MM → Prop} (h : wp_L_areWindows p1 p2 p3 p4 p5 m0 Q) : Met l yL_areWindows wsL_areWindows ({ frames := 9, cells := 0, slots := 0, locals := 209 }) (va_Pc [.ref p1, .ref p2, .int p3, .int p4, .int p5] (SP G base m0)) (va_Qi Q (HB G base) (xA base)) 0 0 (xA base) := by
  refine Met.ofW (cc := cL_areWindows) (maxL := 20) (ret := (some .boolean)) (by decide) rfl ?_
  intro p e s m args below meth c s₁ B hml hv
  obtain ⟨rfl, hbase, hh, hK, hX⟩ := hv
  have C0 : BC p s m _ meth c G base RL cL_areWindows 20 (some .boolean) wsL_areWindows := ⟨B.exec, B.bytes, B.returns, hml, findClass_of_methodNamed B.named, atoms_spec (ws := wsL_areWindows) B.pre, B.notSynchronized, hK, hbase, hX⟩
  obtain ⟨hx, hb, hr, -, hown, hts, hlocks, -, -, -⟩ := id C0
  have hS : va_S (xA base) s.heap s.heap [] := va_S.rf
  have hl := lv_entry ([.ref p1, .ref p2, .int p3, .int p4, .int p5]) (n := 20) (Nat.le_of_ble_eq_true rfl)
  rw [lg_entry_eq]
  generalize (lg_sl ([.ref p1, .ref p2, .int p3, .int p4, .int p5]) ++ List.replicate (20 - (lg_sl ([.ref p1, .ref p2, .int p3, .int p4, .int p5])).length) Slot.unset).toArray = ls at hl ⊢
  have hl : lv_has ls 20 [(0, .ref p1), (1, .ref p2), (2, .int p3), (3, .int p4), (4, .int p5)] := hl
  unfold wp_L_areWindows at h
  refine lv_iload_n hx hb dL_areWindows_0 rfl (lv_at hl 3 rfl) ?_
  refine lv_iconst (v := 3) hx hb dL_areWindows_1 (by decide) ?_
  refine lv_irem hx hb dL_areWindows_2 (by decide) ?_
  refine lv_if_ne (tgt := 19) hx hb dL_areWindows_3 (by decide) (fun c1 => ?_) (fun c1 => ?_)
  · replace h := h.1 c1
    refine lv_aload_n hx hb dL_areWindows_19 rfl (lv_at hl 0 rfl) ?_
    obtain ⟨g2, h⟩ := h
    refine xc_i (va_runV (As := []) (rest := []) ⟨hx, hb, hml, hown, hts⟩ (mt_X5_clock l G base h) (cwV 0 hts gL_areWindows_X5_clock rfl rfl rfl (by decide +kernel) ⟨Nat.le_of_ble_eq_true rfl, Nat.le_of_ble_eq_true rfl⟩) (xp_V hbase hh hK hX hS (ci := 5) g2 (by decide) rfl) rfl rfl hl.1 rfl (lv_room (Nat.le_of_ble_eq_true rfl)) dL_areWindows_20 ⟨Nat.le_of_ble_eq_true rfl, Nat.le_of_ble_eq_true rfl⟩) hS (fun r3 m4 H locs h hh hS => ?_)
    refine lv_bipush (v := 60) hx hb dL_areWindows_23 (by decide) ?_
    refine lv_idiv hx hb dL_areWindows_25 (by decide) ?_
    refine lv_bipush (v := 60) hx hb dL_areWindows_26 (by decide) ?_
    refine lv_imul hx hb dL_areWindows_28 ?_
    refine lv_iload_n hx hb dL_areWindows_29 rfl (lv_at hl 3 rfl) ?_
    refine lv_iconst (v := 3) hx hb dL_areWindows_30 (by decide) ?_
    refine lv_idiv hx hb dL_areWindows_31 (by decide) ?_
    refine lv_sipush (v := 300) hx hb dL_areWindows_32 (by decide) ?_
    refine lv_irem hx hb dL_areWindows_35 (by decide) ?_
    refine lv_bipush (v := 60) hx hb dL_areWindows_36 (by decide) ?_
    refine lv_imul hx hb dL_areWindows_38 ?_
    refine lv_isub hx hb dL_areWindows_39 ?_
    exact bk_L_areWindows_40 C0 hl9  _ _ _ _ _ _ _ _ _ h hh hS (lv_sub hl [0, 1, 2, 4] rfl)
  · replace h := h.2 c1
    refine lv_iload_n hx hb dL_areWindows_6 rfl (lv_at hl 3 rfl) ?_
    refine lv_iconst (v := 3) hx hb dL_areWindows_7 (by decide) ?_
    refine lv_idiv hx hb dL_areWindows_8 (by decide) ?_
    refine lv_bipush (v := 40) hx hb dL_areWindows_9 (by decide) ?_
    refine lv_irem hx hb dL_areWindows_11 (by decide) ?_
    refine lv_sipush (v := 3600) hx hb dL_areWindows_12 (by decide) ?_
    refine lv_imul hx hb dL_areWindows_15 ?_
    refine lv_goto (tgt := 40) hx hb dL_areWindows_16 (by decide) ?_
    exact bk_L_areWindows_40 C0 hl9  _ _ _ _ _ _ _ _ _ h hh hS (lv_sub hl [0, 1, 2, 4] rfl)

set_option maxHeartbeats 4000000 in
set_option maxRecDepth 100000 in
theorem mt_L_draw (l : Launch) (hl9 : l.stackTraces = false) (G : GG) (base : Nat) {b LL : Nat} {xs : Nat → Int32} {p2 : Int32} {p3 : Int32} {m0 : MM} {Q : Int32 → MM → Prop} (h : wp_L_draw p2 p3 m0 xs LL Q) : Met l yL_draw wsL_draw ({ frames := 0, cells := 0, slots := 0, locals := 8 }) (va_Pc [.ref b, .int p2, .int p3] (SX G base m0 b LL xs)) (va_Qi Q (HB G base) (xA base)) 0 0 (xA base) := by
  refine Met.ofW (cc := cL_draw) (maxL := 4) (ret := (some .int)) (by decide) rfl ?_
  intro p e s m args below meth c s₁ B hml hv
  obtain ⟨rfl, ⟨hbase, hh, hK, hX⟩, hXs, hbl⟩ := hv
  have C0 : BC p s m _ meth c G base RL cL_draw 4 (some .int) wsL_draw := ⟨B.exec, B.bytes, B.returns, hml, findClass_of_methodNamed B.named, atoms_spec (ws := wsL_draw) B.pre, B.notSynchronized, hK, hbase, hX⟩
  obtain ⟨hx, hb, hr, -, hown, hts, hlocks, -, -, -⟩ := id C0
  have hbl2 := Nat.lt_of_lt_of_le hbl hbase
  have hbA : ¬ xA base b := Nat.not_le.mpr hbl
  have hS : va_S (xA base) s.heap s.heap [] := va_S.rf
  have hl := lv_entry ([.ref b, .int p2, .int p3]) (n := 4) (Nat.le_of_ble_eq_true rfl)
  rw [lg_entry_eq]
  generalize (lg_sl ([.ref b, .int p2, .int p3]) ++ List.replicate (4 - (lg_sl ([.ref b, .int p2, .int p3])).length) Slot.unset).toArray = ls at hl ⊢
  have hl : lv_has ls 4 [(0, .ref b), (1, .int p2), (2, .int p3)] := hl
  unfold wp_L_draw at h
  have q1 : (Cond.constant RL 7 (1026144197)).before _ s = true := hts _ (List.mem_cons_of_mem _ (List.mem_of_getElem? (i := 0) rfl))
  have q2 : (Cond.constant RL 8 (365855735)).before _ s = true := hts _ (List.mem_cons_of_mem _ (List.mem_of_getElem? (i := 1) rfl))
  have q3 : (Cond.constant RL 9 (2147483647)).before _ s = true := hts _ (List.mem_cons_of_mem _ (List.mem_of_getElem? (i := 2) rfl))
  refine lv_iload_n hx hb dL_draw_0 rfl (lv_at hl 1 rfl) ?_
  refine lv_aload_n hx hb dL_draw_1 rfl (lv_at hl 0 rfl) ?_
  refine va_slen hx hb hXs hbl2 hbA hS dL_draw_2 ?_
  refine lv_icmp_ge (tgt := 12) hx hb dL_draw_3 (by decide) (fun c1 => ?_) (fun c1 => ?_)
  · replace h := h.1 c1
    refine lv_ldc hx hb hown q1 dL_draw_12 ?_
    refine lv_iload_n hx hb dL_draw_14 rfl (lv_at hl 1 rfl) ?_
    refine lv_iconst (v := 4) hx hb dL_draw_15 (by decide) ?_
    refine lv_iadd hx hb dL_draw_16 ?_
    refine lv_imul hx hb dL_draw_17 ?_
    refine lv_ldc hx hb hown q2 dL_draw_18 ?_
    refine lv_iadd hx hb dL_draw_20 ?_
    refine lv_topi (fun x2 ex2 => ?_)
    replace h := h x2 ex2
    refine lv_istore_n (lv' := [(3, .int x2), (0, .ref b), (1, .int p2), (2, .int p3)]) hx hb dL_draw_21 rfl hl (by decide) rfl (fun ls hl => ?_)
    refine lv_iload_n hx hb dL_draw_22 rfl (lv_at hl 0 rfl) ?_
    refine lv_ldc hx hb hown q3 dL_draw_23 ?_
    refine lv_iand hx hb dL_draw_25 ?_
    refine lv_iload_n hx hb dL_draw_26 rfl (lv_at hl 3 rfl) ?_
    obtain ⟨g3, h⟩ := h
    refine lv_irem hx hb dL_draw_27 g3 ?_
    exact (xe_i hx hb hr hlocks hbase hh hK hX hS h (Nat.le_of_ble_eq_true rfl) (Nat.le_of_ble_eq_true rfl) dL_draw_28)
  · replace h := h.2 c1
    refine lv_aload_n hx hb dL_draw_6 rfl (lv_at hl 0 rfl) ?_
    refine lv_iload_n hx hb dL_draw_7 rfl (lv_at hl 1 rfl) ?_
    obtain ⟨g4, h⟩ := h
    refine va_sld hx hb hXs hbl2 hbA hS g4 dL_draw_8 ?_
    refine lv_goto (tgt := 21) hx hb dL_draw_9 (by decide) ?_
    refine lv_topi (fun x5 ex5 => ?_)
    replace h := h x5 ex5
    refine lv_istore_n (lv' := [(3, .int x5), (0, .ref b), (1, .int p2), (2, .int p3)]) hx hb dL_draw_21 rfl hl (by decide) rfl (fun ls hl => ?_)
    refine lv_iload_n hx hb dL_draw_22 rfl (lv_at hl 0 rfl) ?_
    refine lv_ldc hx hb hown q3 dL_draw_23 ?_
    refine lv_iand hx hb dL_draw_25 ?_
    refine lv_iload_n hx hb dL_draw_26 rfl (lv_at hl 3 rfl) ?_
    obtain ⟨g6, h⟩ := h
    refine lv_irem hx hb dL_draw_27 g6 ?_
    exact (xe_i hx hb hr hlocks hbase hh hK hX hS h (Nat.le_of_ble_eq_true rfl) (Nat.le_of_ble_eq_true rfl) dL_draw_28)

set_option maxHeartbeats 4000000 in
set_option maxRecDepth 100000 in
theorem bk_L_goesOn_62 {p : Program} {l : Launch} {e : Env} {s : State} {m : MethodId} {args : Array Value} {below : List Frame} {meth : Method} {c : Code} {G : GG} {base : Nat} (C0 : BC p s m args meth c G base RL cL_goesOn 10 (some .boolean) wsL_goesOn) (hl9 : l.stackTraces = false) {Q : Int32 → MM → Prop} : ∀ (n : Nat) (l0 : Nat) (l2 : Nat) (l6 : Int32) (l7 : Int32) (l8 : Int32) (m0 : MM) (H : Heap) (locs : List Loc) (ls : Array Slot), wp_L_goesOn_62 Q n l0 l2 l6 l7 l8 m0 → hp G (xA base) m0 H → va_S (xA base) s.heap H locs → lv_has ls 10 [(0, .ref l0), (2, .ref l2), (6, .int l6), (7, .int l7), (8, .int l8)] → W p l e ({ frames := 9, cells := 0, slots := 0, locals := 182 } : Room) s m args below meth c H locs 0 0 (MQ below (va_Qi Q (HB G base) (xA base)) args s 0 0 (xA base)) (F0 m 62 ls []) := by
  obtain ⟨hx, hb, hr, hml, hown, hts, hlocks, hK, hbase, hX⟩ := id C0
  intro n
  induction n with
  | zero =>
    intro l0 l2 l6 l7 l8 m0 H locs ls h
    unfold wp_L_goesOn_62 at h
    exact h.elim
  | succ n ih =>
    intro l0 l2 l6 l7 l8 m0 H locs ls h hh hS hl
    unfold wp_L_goesOn_62 at h
    refine lv_iload hx hb dL_goesOn_62 (lv_at hl 4 rfl) ?_
    refine lv_iconst (v := 4) hx hb dL_goesOn_64 (by decide) ?_
    refine lv_icmp_ge (tgt := 118) hx hb dL_goesOn_65 (by decide) (fun c15 => ?_) (fun c15 => ?_)
    · replace h := h.1 c15
      refine lv_iload hx hb dL_goesOn_118 (lv_at hl 3 rfl) ?_
      refine lv_if_eq (tgt := 132) hx hb dL_goesOn_120 (by decide) (fun c16 => ?_) (fun c16 => ?_)
      · replace h := h.1 c16
        refine lv_iconst (v := 0) hx hb dL_goesOn_132 (by decide) ?_
        exact (xe_z hx hb hr hlocks hbase hh hK hX hS (Or.inl rfl) h (Nat.le_of_ble_eq_true rfl) (Nat.le_of_ble_eq_true rfl) dL_goesOn_133)
      · replace h := h.2 c16
        refine lv_iload hx hb dL_goesOn_123 (lv_at hl 2 rfl) ?_
        refine lv_if_lt (tgt := 132) hx hb dL_goesOn_125 (by decide) (fun c17 => ?_) (fun c17 => ?_)
        · replace h := h.1 c17
          refine lv_iconst (v := 0) hx hb dL_goesOn_132 (by decide) ?_
          exact (xe_z hx hb hr hlocks hbase hh hK hX hS (Or.inl rfl) h (Nat.le_of_ble_eq_true rfl) (Nat.le_of_ble_eq_true rfl) dL_goesOn_133)
        · replace h := h.2 c17
          refine lv_iconst (v := 1) hx hb dL_goesOn_128 (by decide) ?_
          refine lv_goto (tgt := 133) hx hb dL_goesOn_129 (by decide) ?_
          exact (xe_z hx hb hr hlocks hbase hh hK hX hS (Or.inr rfl) h (Nat.le_of_ble_eq_true rfl) (Nat.le_of_ble_eq_true rfl) dL_goesOn_133)
    · replace h := h.2 c15
      refine lv_aload_n hx hb dL_goesOn_68 rfl (lv_at hl 0 rfl) ?_
      obtain ⟨g18, h⟩ := h
      refine xc_i (va_runV (As := []) (rest := []) ⟨hx, hb, hml, hown, hts⟩ (mt_X5_clock l G base h) (cwV 0 hts gL_goesOn_X5_clock rfl rfl rfl (by decide +kernel) ⟨Nat.le_of_ble_eq_true rfl, Nat.le_of_ble_eq_true rfl⟩) (xp_V hbase hh hK hX hS (ci := 5) g18 (by decide) rfl) rfl rfl hl.1 rfl (lv_room (Nat.le_of_ble_eq_true rfl)) dL_goesOn_69 ⟨Nat.le_of_ble_eq_true rfl, Nat.le_of_ble_eq_true rfl⟩) hS (fun r19 m20 H locs h hh hS => ?_)
      refine lv_aload_n hx hb dL_goesOn_72 rfl (lv_at hl 1 rfl) ?_
      refine lv_iconst (v := 2) hx hb dL_goesOn_73 (by decide) ?_
      refine lv_iload hx hb dL_goesOn_74 (lv_at hl 4 rfl) ?_
      refine lv_iadd hx hb dL_goesOn_76 ?_
      obtain ⟨g21, h⟩ := h
      obtain ⟨g22, h⟩ := h
      refine xr_iald hx hb hK hh g21 g22 dL_goesOn_77 ?_
      refine lv_isub hx hb dL_goesOn_78 ?_
      refine lv_topi (fun x23 ex23 => ?_)
      replace h := h x23 ex23
      refine lv_istore (lv' := [(9, .int x23), (0, .ref l0), (2, .ref l2), (6, .int l6), (7, .int l7), (8, .int l8)]) hx hb dL_goesOn_79 hl (by decide) rfl (fun ls hl => ?_)
      refine lv_aload_n hx hb dL_goesOn_81 rfl (lv_at hl 2 rfl) ?_
      refine lv_bipush (v := 6) hx hb dL_goesOn_82 (by decide) ?_
      refine lv_iload hx hb dL_goesOn_84 (lv_at hl 5 rfl) ?_
      refine lv_iadd hx hb dL_goesOn_86 ?_
      refine lv_iload hx hb dL_goesOn_87 (lv_at hl 0 rfl) ?_
      refine lv_aload_n hx hb dL_goesOn_89 rfl (lv_at hl 2 rfl) ?_
      refine lv_bipush (v := 6) hx hb dL_goesOn_90 (by decide) ?_
      refine lv_iload hx hb dL_goesOn_92 (lv_at hl 5 rfl) ?_
      refine lv_iadd hx hb dL_goesOn_94 ?_
      obtain ⟨g24, h⟩ := h
      obtain ⟨g25, h⟩ := h
      refine xr_iald hx hb hK hh g24 g25 dL_goesOn_95 ?_
      refine lv_icmp_le (tgt := 104) hx hb dL_goesOn_96 (by decide) (fun c26 => ?_) (fun c26 => ?_)
      · replace h := h.1 c26
        refine lv_aload_n hx hb dL_goesOn_104 rfl (lv_at hl 2 rfl) ?_
        refine lv_bipush (v := 6) hx hb dL_goesOn_105 (by decide) ?_
        refine lv_iload hx hb dL_goesOn_107 (lv_at hl 5 rfl) ?_
        refine lv_iadd hx hb dL_goesOn_109 ?_
        obtain ⟨g27, h⟩ := h
        obtain ⟨g28, h⟩ := h
        refine xr_iald hx hb hK hh g27 g28 dL_goesOn_110 ?_
        obtain ⟨g29, h⟩ := h
        obtain ⟨g30, h⟩ := h
        refine xr_iast hx hb hK hh g29 hS g30 dL_goesOn_111 (fun H locs hh hS => ?_)
        obtain ⟨m31, em31⟩ : ∃ z : MM, z = sAI m20 l2 (va_up (mAI m20 l2) ((6 : Int32) + l8).toNatClampNeg (mAI m20 l2 ((6 : Int32) + l8).toNatClampNeg)) := ⟨_, rfl⟩
        rw [← em31] at hh
        replace h := h m31 em31
        obtain ⟨x32, ex32⟩ : ∃ y : Int32, y = l8 + 1 := ⟨_, rfl⟩
        replace h := h x32 ex32
        refine lv_iinc (v := x32) (lv' := [(8, .int x32), (9, .int x23), (0, .ref l0), (2, .ref l2), (6, .int l6), (7, .int l7)]) hx hb dL_goesOn_112 hl (k := 5) rfl (by rw [ex32]; rfl) (by decide) rfl (fun ls hl => ?_)
        refine lv_goto (tgt := 62) hx hb dL_goesOn_115 (by decide) ?_
        exact ih _ _ _ _ _ _ _ _ _ h hh hS (lv_sub hl [2, 3, 4, 5, 0] rfl)
      · replace h := h.2 c26
        refine lv_iload hx hb dL_goesOn_99 (lv_at hl 0 rfl) ?_
        refine lv_goto (tgt := 111) hx hb dL_goesOn_101 (by decide) ?_
        obtain ⟨g33, h⟩ := h
        obtain ⟨g34, h⟩ := h
        refine xr_iast hx hb hK hh g33 hS g34 dL_goesOn_111 (fun H locs hh hS => ?_)
        obtain ⟨m35, em35⟩ : ∃ z : MM, z = sAI m20 l2 (va_up (mAI m20 l2) ((6 : Int32) + l8).toNatClampNeg x23) := ⟨_, rfl⟩
        rw [← em35] at hh
        replace h := h m35 em35
        obtain ⟨x36, ex36⟩ : ∃ y : Int32, y = l8 + 1 := ⟨_, rfl⟩
        replace h := h x36 ex36
        refine lv_iinc (v := x36) (lv' := [(8, .int x36), (9, .int x23), (0, .ref l0), (2, .ref l2), (6, .int l6), (7, .int l7)]) hx hb dL_goesOn_112 hl (k := 5) rfl (by rw [ex36]; rfl) (by decide) rfl (fun ls hl => ?_)
        refine lv_goto (tgt := 62) hx hb dL_goesOn_115 (by decide) ?_
        exact ih _ _ _ _ _ _ _ _ _ h hh hS (lv_sub hl [2, 3, 4, 5, 0] rfl)

set_option maxHeartbeats 4000000 in
set_option maxRecDepth 100000 in
theorem mt_L_goesOn (l : Launch) (hl9 : l.stackTraces = false) (G : GG) (base : Nat) {p1 : Nat} {p2 : Nat} {p3 : Nat} {p4 : Int32} {m0 : MM} {Q : Int32 → MM → Prop} (h : wp_L_goesOn p1 p2 p3 p4 m0 Q) : Met l yL_goesOn wsL_goesOn ({ frames := 9, cells := 0, slots := 0, locals := 182 }) (va_Pc [.ref p1, .ref p2, .ref p3, .int p4] (SP G base m0)) (va_Qi Q (HB G base) (xA base)) 0 0 (xA base) := by
  refine Met.ofW (cc := cL_goesOn) (maxL := 10) (ret := (some .boolean)) (by decide) rfl ?_
  intro p e s m args below meth c s₁ B hml hv
  obtain ⟨rfl, hbase, hh, hK, hX⟩ := hv
  have C0 : BC p s m _ meth c G base RL cL_goesOn 10 (some .boolean) wsL_goesOn := ⟨B.exec, B.bytes, B.returns, hml, findClass_of_methodNamed B.named, atoms_spec (ws := wsL_goesOn) B.pre, B.notSynchronized, hK, hbase, hX⟩
  obtain ⟨hx, hb, hr, -, hown, hts, hlocks, -, -, -⟩ := id C0
  have hS : va_S (xA base) s.heap s.heap [] := va_S.rf
  have hl := lv_entry ([.ref p1, .ref p2, .ref p3, .int p4]) (n := 10) (Nat.le_of_ble_eq_true rfl)
  rw [lg_entry_eq]
  generalize (lg_sl ([.ref p1, .ref p2, .ref p3, .int p4]) ++ List.replicate (10 - (lg_sl ([.ref p1, .ref p2, .ref p3, .int p4])).length) Slot.unset).toArray = ls at hl ⊢
  have hl : lv_has ls 10 [(0, .ref p1), (1, .ref p2), (2, .ref p3), (3, .int p4)] := hl
  unfold wp_L_goesOn at h
  refine lv_aload_n hx hb dL_goesOn_0 rfl (lv_at hl 0 rfl) ?_
  refine xc_i (va_runS (As := [.ref p1]) (rest := []) ⟨hx, hb, hml, hown, hts⟩ (mt_L_allRows l hl9 G base h) (va_cwS 1 hts gL_goesOn_L_allRows rfl rfl rfl (by decide +kernel) ⟨Nat.le_of_ble_eq_true rfl, Nat.le_of_ble_eq_true rfl⟩) (xp_S hbase hh hK hX hS) rfl rfl hl.1 rfl (lv_room (Nat.le_of_ble_eq_true rfl)) dL_goesOn_1 ⟨Nat.le_of_ble_eq_true rfl, Nat.le_of_ble_eq_true rfl⟩) hS (fun r1 m2 H locs h hh hS => ?_)
  refine lv_istore (lv' := [(4, .int r1), (0, .ref p1), (1, .ref p2), (2, .ref p3), (3, .int p4)]) hx hb dL_goesOn_4 hl (by decide) rfl (fun ls hl => ?_)
  refine lv_aload_n hx hb dL_goesOn_6 rfl (lv_at hl 1 rfl) ?_
  obtain ⟨g3, h⟩ := h
  refine xc_i (va_runV (As := []) (rest := []) ⟨hx, hb, hml, hown, hts⟩ (mt_X5_clock l G base h) (cwV 0 hts gL_goesOn_X5_clock rfl rfl rfl (by decide +kernel) ⟨Nat.le_of_ble_eq_true rfl, Nat.le_of_ble_eq_true rfl⟩) (xp_V hbase hh hK hX hS (ci := 5) g3 (by decide) rfl) rfl rfl hl.1 rfl (lv_room (Nat.le_of_ble_eq_true rfl)) dL_goesOn_7 ⟨Nat.le_of_ble_eq_true rfl, Nat.le_of_ble_eq_true rfl⟩) hS (fun r4 m5 H locs h hh hS => ?_)
  refine lv_istore (lv' := [(5, .int r4), (4, .int r1), (0, .ref p1), (1, .ref p2), (2, .ref p3), (3, .int p4)]) hx hb dL_goesOn_10 hl (by decide) rfl (fun ls hl => ?_)
  refine lv_aload_n hx hb dL_goesOn_12 rfl (lv_at hl 2 rfl) ?_
  refine lv_iload_n hx hb dL_goesOn_13 rfl (lv_at hl 5 rfl) ?_
  obtain ⟨g6, h⟩ := h
  refine xc_i (va_runV (As := [.int p4]) (rest := []) ⟨hx, hb, hml, hown, hts⟩ (mtq_X5_advance l G base h) (cwV 1 hts gL_goesOn_X5_advance rfl rfl rfl (by decide +kernel) ⟨Nat.le_of_ble_eq_true rfl, Nat.le_of_ble_eq_true rfl⟩) (xp_V hbase hh hK hX hS (ci := 5) g6 (by decide) rfl) rfl rfl hl.1 rfl (lv_room (Nat.le_of_ble_eq_true rfl)) dL_goesOn_14 ⟨Nat.le_of_ble_eq_true rfl, Nat.le_of_ble_eq_true rfl⟩) hS (fun r7 m8 H locs h hh hS => ?_)
  refine lv_istore (lv' := [(6, .int r7), (5, .int r4), (4, .int r1), (0, .ref p1), (1, .ref p2), (2, .ref p3), (3, .int p4)]) hx hb dL_goesOn_17 hl (by decide) rfl (fun ls hl => ?_)
  refine lv_aload_n hx hb dL_goesOn_19 rfl (lv_at hl 4 rfl) ?_
  refine lv_iload_n hx hb dL_goesOn_20 rfl (lv_at hl 6 rfl) ?_
  obtain ⟨g9, h⟩ := h
  refine xc_i (va_runV (As := [.int p4]) (rest := []) ⟨hx, hb, hml, hown, hts⟩ (mtq_X5_advance l G base h) (cwV 1 hts gL_goesOn_X5_advance rfl rfl rfl (by decide +kernel) ⟨Nat.le_of_ble_eq_true rfl, Nat.le_of_ble_eq_true rfl⟩) (xp_V hbase hh hK hX hS (ci := 5) g9 (by decide) rfl) rfl rfl hl.1 rfl (lv_room (Nat.le_of_ble_eq_true rfl)) dL_goesOn_21 ⟨Nat.le_of_ble_eq_true rfl, Nat.le_of_ble_eq_true rfl⟩) hS (fun r10 m11 H locs h hh hS => ?_)
  refine lv_iload hx hb dL_goesOn_24 (lv_at hl 0 rfl) ?_
  refine lv_icmp_ne (tgt := 56) hx hb dL_goesOn_26 (by decide) (fun c12 => ?_) (fun c12 => ?_)
  · replace h := h.1 c12
    refine lv_iconst (v := 0) hx hb dL_goesOn_56 (by decide) ?_
    refine lv_topi (fun x13 ex13 => ?_)
    replace h := h x13 ex13
    refine lv_istore (lv' := [(7, .int x13), (6, .int r7), (5, .int r4), (4, .int r1), (0, .ref p1), (1, .ref p2), (2, .ref p3), (3, .int p4)]) hx hb dL_goesOn_57 hl (by decide) rfl (fun ls hl => ?_)
    refine lv_iconst (v := 0) hx hb dL_goesOn_59 (by decide) ?_
    refine lv_topi (fun x14 ex14 => ?_)
    replace h := h x14 ex14
    refine lv_istore (lv' := [(8, .int x14), (7, .int x13), (6, .int r7), (5, .int r4), (4, .int r1), (0, .ref p1), (1, .ref p2), (2, .ref p3), (3, .int p4)]) hx hb dL_goesOn_60 hl (by decide) rfl (fun ls hl => ?_)
    obtain ⟨n9, h⟩ := h
    exact bk_L_goesOn_62 C0 hl9  n9 _ _ _ _ _ _ _ _ _ h hh hS (lv_sub hl [5, 7, 2, 1, 0] rfl)
  · replace h := h.2 c12
    refine lv_aload_n hx hb dL_goesOn_29 rfl (lv_at hl 3 rfl) ?_
    obtain ⟨g37, h⟩ := h
    refine xc_i (va_runV (As := []) (rest := []) ⟨hx, hb, hml, hown, hts⟩ (mt_X5_clock l G base h) (cwV 0 hts gL_goesOn_X5_clock rfl rfl rfl (by decide +kernel) ⟨Nat.le_of_ble_eq_true rfl, Nat.le_of_ble_eq_true rfl⟩) (xp_V hbase hh hK hX hS (ci := 5) g37 (by decide) rfl) rfl rfl hl.1 rfl (lv_room (Nat.le_of_ble_eq_true rfl)) dL_goesOn_30 ⟨Nat.le_of_ble_eq_true rfl, Nat.le_of_ble_eq_true rfl⟩) hS (fun r38 m39 H locs h hh hS => ?_)
    refine lv_iload hx hb dL_goesOn_33 (lv_at hl 1 rfl) ?_
    refine lv_iload_n hx hb dL_goesOn_35 rfl (lv_at hl 6 rfl) ?_
    refine lv_iadd hx hb dL_goesOn_36 ?_
    refine lv_icmp_ne (tgt := 56) hx hb dL_goesOn_37 (by decide) (fun c40 => ?_) (fun c40 => ?_)
    · replace h := h.1 c40
      refine lv_iconst (v := 0) hx hb dL_goesOn_56 (by decide) ?_
      refine lv_topi (fun x41 ex41 => ?_)
      replace h := h x41 ex41
      refine lv_istore (lv' := [(7, .int x41), (6, .int r7), (5, .int r4), (4, .int r1), (0, .ref p1), (1, .ref p2), (2, .ref p3), (3, .int p4)]) hx hb dL_goesOn_57 hl (by decide) rfl (fun ls hl => ?_)
      refine lv_iconst (v := 0) hx hb dL_goesOn_59 (by decide) ?_
      refine lv_topi (fun x42 ex42 => ?_)
      replace h := h x42 ex42
      refine lv_istore (lv' := [(8, .int x42), (7, .int x41), (6, .int r7), (5, .int r4), (4, .int r1), (0, .ref p1), (1, .ref p2), (2, .ref p3), (3, .int p4)]) hx hb dL_goesOn_60 hl (by decide) rfl (fun ls hl => ?_)
      obtain ⟨n9, h⟩ := h
      exact bk_L_goesOn_62 C0 hl9  n9 _ _ _ _ _ _ _ _ _ h hh hS (lv_sub hl [5, 7, 2, 1, 0] rfl)
    · replace h := h.2 c40
      refine lv_aload_n hx hb dL_goesOn_40 rfl (lv_at hl 3 rfl) ?_
      refine xc_i (va_runS (As := [.ref p1]) (rest := []) ⟨hx, hb, hml, hown, hts⟩ (mt_L_allRows l hl9 G base h) (va_cwS 1 hts gL_goesOn_L_allRows rfl rfl rfl (by decide +kernel) ⟨Nat.le_of_ble_eq_true rfl, Nat.le_of_ble_eq_true rfl⟩) (xp_S hbase hh hK hX hS) rfl rfl hl.1 rfl (lv_room (Nat.le_of_ble_eq_true rfl)) dL_goesOn_41 ⟨Nat.le_of_ble_eq_true rfl, Nat.le_of_ble_eq_true rfl⟩) hS (fun r43 m44 H locs h hh hS => ?_)
      refine lv_iload hx hb dL_goesOn_44 (lv_at hl 2 rfl) ?_
      refine lv_iload hx hb dL_goesOn_46 (lv_at hl 0 rfl) ?_
      refine lv_isub hx hb dL_goesOn_48 ?_
      refine lv_icmp_ne (tgt := 56) hx hb dL_goesOn_49 (by decide) (fun c45 => ?_) (fun c45 => ?_)
      · replace h := h.1 c45
        refine lv_iconst (v := 0) hx hb dL_goesOn_56 (by decide) ?_
        refine lv_topi (fun x46 ex46 => ?_)
        replace h := h x46 ex46
        refine lv_istore (lv' := [(7, .int x46), (6, .int r7), (5, .int r4), (4, .int r1), (0, .ref p1), (1, .ref p2), (2, .ref p3), (3, .int p4)]) hx hb dL_goesOn_57 hl (by decide) rfl (fun ls hl => ?_)
        refine lv_iconst (v := 0) hx hb dL_goesOn_59 (by decide) ?_
        refine lv_topi (fun x47 ex47 => ?_)
        replace h := h x47 ex47
        refine lv_istore (lv' := [(8, .int x47), (7, .int x46), (6, .int r7), (5, .int r4), (4, .int r1), (0, .ref p1), (1, .ref p2), (2, .ref p3), (3, .int p4)]) hx hb dL_goesOn_60 hl (by decide) rfl (fun ls hl => ?_)
        obtain ⟨n9, h⟩ := h
        exact bk_L_goesOn_62 C0 hl9  n9 _ _ _ _ _ _ _ _ _ h hh hS (lv_sub hl [5, 7, 2, 1, 0] rfl)
      · replace h := h.2 c45
        refine lv_iconst (v := 1) hx hb dL_goesOn_52 (by decide) ?_
        refine lv_goto (tgt := 57) hx hb dL_goesOn_53 (by decide) ?_
        refine lv_topi (fun x48 ex48 => ?_)
        replace h := h x48 ex48
        refine lv_istore (lv' := [(7, .int x48), (6, .int r7), (5, .int r4), (4, .int r1), (0, .ref p1), (1, .ref p2), (2, .ref p3), (3, .int p4)]) hx hb dL_goesOn_57 hl (by decide) rfl (fun ls hl => ?_)
        refine lv_iconst (v := 0) hx hb dL_goesOn_59 (by decide) ?_
        refine lv_topi (fun x49 ex49 => ?_)
        replace h := h x49 ex49
        refine lv_istore (lv' := [(8, .int x49), (7, .int x48), (6, .int r7), (5, .int r4), (4, .int r1), (0, .ref p1), (1, .ref p2), (2, .ref p3), (3, .int p4)]) hx hb dL_goesOn_60 hl (by decide) rfl (fun ls hl => ?_)
        obtain ⟨n9, h⟩ := h
        exact bk_L_goesOn_62 C0 hl9  n9 _ _ _ _ _ _ _ _ _ h hh hS (lv_sub hl [5, 7, 2, 1, 0] rfl)

set_option maxHeartbeats 4000000 in
set_option maxRecDepth 100000 in
theorem bk_L_isRollup_353 {p : Program} {l : Launch} {e : Env} {s : State} {m : MethodId} {args : Array Value} {below : List Frame} {meth : Method} {c : Code} {G : GG} {base : Nat} (C0 : BC p s m args meth c G base RL cL_isRollup 22 (some .boolean) wsL_isRollup) (hl9 : l.stackTraces = false) {Q : Int32 → MM → Prop} {K : Nat → Int32 → Int32 → Int32 → Int32 → Int64 → Int32 → Int32 → Int32 → Int32 → Int32 → Int64 → Int32 → Int32 → Int32 → Int32 → Int32 → MM → Prop} (hK9 : ∀ (l0 : Nat) (l2 : Int32) (l3 : Int32) (l4 : Int32) (l5 : Int32) (l6 : Int64) (l8 : Int32) (l9 : Int32) (l10 : Int32) (l11 : Int32) (l13 : Int32) (l14 : Int64) (l16 : Int32) (l17 : Int32) (l18 : Int32) (l19 : Int32) (l20 : Int32) (m0 : MM) (H : Heap) (locs : List Loc) (ls : Array Slot), K l0 l2 l3 l4 l5 l6 l8 l9 l10 l11 l13 l14 l16 l17 l18 l19 l20 m0 → hp G (xA base) m0 H → va_S (xA base) s.heap H locs → lv_has ls 22 [(0, .ref l0), (2, .int l2), (3, .int l3), (4, .int l4), (5, .int l5), (6, .long l6), (8, .int l8), (9, .int l9), (10, .int l10), (11, .int l11), (13, .int l13), (14, .long l14), (16, .int l16), (17, .int l17), (18, .int l18), (19, .int l19), (20, .int l20)] → W p l e ({ frames := 11, cells := 0, slots := 0, locals := 213 } : Room) s m args below meth c H locs 0 0 (MQ below (va_Qi Q (HB G base) (xA base)) args s 0 0 (xA base)) (F0 m 217 ls [])) : ∀ (l0 : Nat) (l2 : Int32) (l3 : Int32) (l4 : Int32) (l5 : Int32) (l6 : Int64) (l8 : Int32) (l9 : Int32) (l10 : Int32) (l11 : Int32) (l13 : Int32) (l14 : Int64) (l16 : Int32) (l18 : Int32) (l20 : Int32) (l21 : Int32) (s0 : Int32) (m0 : MM) (H : Heap) (locs : List Loc) (ls : Array Slot), wp_L_isRollup_353 Q K l0 l2 l3 l4 l5 l6 l8 l9 l10 l11 l13 l14 l16 l18 l20 l21 s0 m0 → hp G (xA base) m0 H → va_S (xA base) s.heap H locs → lv_has ls 22 [(0, .ref l0), (2, .int l2), (3, .int l3), (4, .int l4), (5, .int l5), (6, .long l6), (8, .int l8), (9, .int l9), (10, .int l10), (11, .int l11), (13, .int l13), (14, .long l14), (16, .int l16), (18, .int l18), (20, .int l20), (21, .int l21)] → W p l e ({ frames := 11, cells := 0, slots := 0, locals := 213 } : Room) s m args below meth c H locs 0 0 (MQ below (va_Qi Q (HB G base) (xA base)) args s 0 0 (xA base)) (F0 m 353 ls [.int s0]) := by
  obtain ⟨hx, hb, hr, hml, hown, hts, hlocks, hK, hbase, hX⟩ := id C0
  intro l0 l2 l3 l4 l5 l6 l8 l9 l10 l11 l13 l14 l16 l18 l20 l21 s0 m0 H locs ls h hh hS hl
  unfold wp_L_isRollup_353 at h
  refine lv_istore (lv' := [(17, .int s0), (0, .ref l0), (2, .int l2), (3, .int l3), (4, .int l4), (5, .int l5), (6, .long l6), (8, .int l8), (9, .int l9), (10, .int l10), (11, .int l11), (13, .int l13), (14, .long l14), (16, .int l16), (18, .int l18), (20, .int l20), (21, .int l21)]) hx hb dL_isRollup_353 hl (by decide) rfl (fun ls hl => ?_)
  refine lv_iload hx hb dL_isRollup_355 (lv_at hl 14 rfl) ?_
  refine lv_if_ge (tgt := 365) hx hb dL_isRollup_357 (by decide) (fun c73 => ?_) (fun c73 => ?_)
  · replace h := h.1 c73
    refine lv_iload hx hb dL_isRollup_365 (lv_at hl 14 rfl) ?_
    refine lv_istore (lv' := [(18, .int l18), (17, .int s0), (0, .ref l0), (2, .int l2), (3, .int l3), (4, .int l4), (5, .int l5), (6, .long l6), (8, .int l8), (9, .int l9), (10, .int l10), (11, .int l11), (13, .int l13), (14, .long l14), (16, .int l16), (20, .int l20), (21, .int l21)]) hx hb dL_isRollup_367 hl (by decide) rfl (fun ls hl => ?_)
    refine lv_iload hx hb dL_isRollup_369 (lv_at hl 16 rfl) ?_
    refine lv_istore (lv' := [(19, .int l21), (18, .int l18), (17, .int s0), (0, .ref l0), (2, .int l2), (3, .int l3), (4, .int l4), (5, .int l5), (6, .long l6), (8, .int l8), (9, .int l9), (10, .int l10), (11, .int l11), (13, .int l13), (14, .long l14), (16, .int l16), (20, .int l20), (21, .int l21)]) hx hb dL_isRollup_371 hl (by decide) rfl (fun ls hl => ?_)
    obtain ⟨x74, ex74⟩ : ∃ y : Int32, y = l20 + 1 := ⟨_, rfl⟩
    replace h := h x74 ex74
    refine lv_iinc (v := x74) (lv' := [(20, .int x74), (19, .int l21), (18, .int l18), (17, .int s0), (0, .ref l0), (2, .int l2), (3, .int l3), (4, .int l4), (5, .int l5), (6, .long l6), (8, .int l8), (9, .int l9), (10, .int l10), (11, .int l11), (13, .int l13), (14, .long l14), (16, .int l16), (21, .int l21)]) hx hb dL_isRollup_373 hl (k := 16) rfl (by rw [ex74]; rfl) (by decide) rfl (fun ls hl => ?_)
    refine lv_goto (tgt := 217) hx hb dL_isRollup_376 (by decide) ?_
    exact hK9 _ _ _ _ _ _ _ _ _ _ _ _ _ _ _ _ _ _ _ _ _ h hh hS (lv_sub hl [4, 5, 6, 7, 8, 9, 10, 11, 12, 13, 14, 15, 16, 3, 2, 1, 0] rfl)
  · replace h := h.2 c73
    refine lv_iload hx hb dL_isRollup_360 (lv_at hl 16 rfl) ?_
    refine lv_goto (tgt := 367) hx hb dL_isRollup_362 (by decide) ?_
    refine lv_istore (lv' := [(18, .int l21), (17, .int s0), (0, .ref l0), (2, .int l2), (3, .int l3), (4, .int l4), (5, .int l5), (6, .long l6), (8, .int l8), (9, .int l9), (10, .int l10), (11, .int l11), (13, .int l13), (14, .long l14), (16, .int l16), (20, .int l20), (21, .int l21)]) hx hb dL_isRollup_367 hl (by decide) rfl (fun ls hl => ?_)
    refine lv_iload hx hb dL_isRollup_369 (lv_at hl 16 rfl) ?_
    refine lv_istore (lv' := [(19, .int l21), (18, .int l21), (17, .int s0), (0, .ref l0), (2, .int l2), (3, .int l3), (4, .int l4), (5, .int l5), (6, .long l6), (8, .int l8), (9, .int l9), (10, .int l10), (11, .int l11), (13, .int l13), (14, .long l14), (16, .int l16), (20, .int l20), (21, .int l21)]) hx hb dL_isRollup_371 hl (by decide) rfl (fun ls hl => ?_)
    obtain ⟨x75, ex75⟩ : ∃ y : Int32, y = l20 + 1 := ⟨_, rfl⟩
    replace h := h x75 ex75
    refine lv_iinc (v := x75) (lv' := [(20, .int x75), (19, .int l21), (18, .int l21), (17, .int s0), (0, .ref l0), (2, .int l2), (3, .int l3), (4, .int l4), (5, .int l5), (6, .long l6), (8, .int l8), (9, .int l9), (10, .int l10), (11, .int l11), (13, .int l13), (14, .long l14), (16, .int l16), (21, .int l21)]) hx hb dL_isRollup_373 hl (k := 16) rfl (by rw [ex75]; rfl) (by decide) rfl (fun ls hl => ?_)
    refine lv_goto (tgt := 217) hx hb dL_isRollup_376 (by decide) ?_
    exact hK9 _ _ _ _ _ _ _ _ _ _ _ _ _ _ _ _ _ _ _ _ _ h hh hS (lv_sub hl [4, 5, 6, 7, 8, 9, 10, 11, 12, 13, 14, 15, 16, 3, 2, 1, 0] rfl)

set_option maxHeartbeats 4000000 in
set_option maxRecDepth 100000 in
theorem bk_L_isRollup_321 {p : Program} {l : Launch} {e : Env} {s : State} {m : MethodId} {args : Array Value} {below : List Frame} {meth : Method} {c : Code} {G : GG} {base : Nat} (C0 : BC p s m args meth c G base RL cL_isRollup 22 (some .boolean) wsL_isRollup) (hl9 : l.stackTraces = false) {Q : Int32 → MM → Prop} {K : Nat → Int32 → Int32 → Int32 → Int32 → Int64 → Int32 → Int32 → Int32 → Int32 → Int32 → Int64 → Int32 → Int32 → Int32 → Int32 → Int32 → MM → Prop} (hK9 : ∀ (l0 : Nat) (l2 : Int32) (l3 : Int32) (l4 : Int32) (l5 : Int32) (l6 : Int64) (l8 : Int32) (l9 : Int32) (l10 : Int32) (l11 : Int32) (l13 : Int32) (l14 : Int64) (l16 : Int32) (l17 : Int32) (l18 : Int32) (l19 : Int32) (l20 : Int32) (m0 : MM) (H : Heap) (locs : List Loc) (ls : Array Slot), K l0 l2 l3 l4 l5 l6 l8 l9 l10 l11 l13 l14 l16 l17 l18 l19 l20 m0 → hp G (xA base) m0 H → va_S (xA base) s.heap H locs → lv_has ls 22 [(0, .ref l0), (2, .int l2), (3, .int l3), (4, .int l4), (5, .int l5), (6, .long l6), (8, .int l8), (9, .int l9), (10, .int l10), (11, .int l11), (13, .int l13), (14, .long l14), (16, .int l16), (17, .int l17), (18, .int l18), (19, .int l19), (20, .int l20)] → W p l e ({ frames := 11, cells := 0, slots := 0, locals := 213 } : Room) s m args below meth c H locs 0 0 (MQ below (va_Qi Q (HB G base) (xA base)) args s 0 0 (xA base)) (F0 m 217 ls [])) : ∀ (l0 : Nat) (l2 : Int32) (l3 : Int32) (l4 : Int32) (l5 : Int32) (l6 : Int64) (l8 : Int32) (l9 : Int32) (l10 : Int32) (l11 : Int32) (l13 : Int32) (l14 : Int64) (l17 : Int32) (l18 : Int32) (l20 : Int32) (l21 : Int32) (s0 : Int32) (m0 : MM) (H : Heap) (locs : List Loc) (ls : Array Slot), wp_L_isRollup_321 Q K l0 l2 l3 l4 l5 l6 l8 l9 l10 l11 l13 l14 l17 l18 l20 l21 s0 m0 → hp G (xA base) m0 H → va_S (xA base) s.heap H locs → lv_has ls 22 [(0, .ref l0), (2, .int l2), (3, .int l3), (4, .int l4), (5, .int l5), (6, .long l6), (8, .int l8), (9, .int l9), (10, .int l10), (11, .int l11), (13, .int l13), (14, .long l14), (17, .int l17), (18, .int l18), (20, .int l20), (21, .int l21)] → W p l e ({ frames := 11, cells := 0, slots := 0, locals := 213 } : Room) s m args below meth c H locs 0 0 (MQ below (va_Qi Q (HB G base) (xA base)) args s 0 0 (xA base)) (F0 m 321 ls [.int s0]) := by
  obtain ⟨hx, hb, hr, hml, hown, hts, hlocks, hK, hbase, hX⟩ := id C0
  intro l0 l2 l3 l4 l5 l6 l8 l9 l10 l11 l13 l14 l17 l18 l20 l21 s0 m0 H locs ls h hh hS hl
  unfold wp_L_isRollup_321 at h
  refine lv_istore (lv' := [(16, .int s0), (0, .ref l0), (2, .int l2), (3, .int l3), (4, .int l4), (5, .int l5), (6, .long l6), (8, .int l8), (9, .int l9), (10, .int l10), (11, .int l11), (13, .int l13), (14, .long l14), (17, .int l17), (18, .int l18), (20, .int l20), (21, .int l21)]) hx hb dL_isRollup_321 hl (by decide) rfl (fun ls hl => ?_)
  refine lv_aload_n hx hb dL_isRollup_323 rfl (lv_at hl 1 rfl) ?_
  refine lv_iload_n hx hb dL_isRollup_324 rfl (lv_at hl 2 rfl) ?_
  refine lv_iload_n hx hb dL_isRollup_325 rfl (lv_at hl 3 rfl) ?_
  refine lv_iconst (v := 1) hx hb dL_isRollup_326 (by decide) ?_
  refine lv_isub hx hb dL_isRollup_327 ?_
  refine lv_iload hx hb dL_isRollup_328 (lv_at hl 16 rfl) ?_
  obtain ⟨g69, h⟩ := h
  refine xc_i (va_runV (As := [.int l2, .int (l3 - (1 : Int32)), .int l21]) (rest := []) ⟨hx, hb, hml, hown, hts⟩ (mtq_X5_greatest l G base h) (cwV 3 hts gL_isRollup_X5_greatest rfl rfl rfl (by decide +kernel) ⟨Nat.le_of_ble_eq_true rfl, Nat.le_of_ble_eq_true rfl⟩) (xp_V hbase hh hK hX hS (ci := 5) g69 (by decide) rfl) rfl rfl hl.1 rfl (lv_room (Nat.le_of_ble_eq_true rfl)) dL_isRollup_330 ⟨Nat.le_of_ble_eq_true rfl, Nat.le_of_ble_eq_true rfl⟩) hS (fun r70 m71 H locs h hh hS => ?_)
  refine lv_iload hx hb dL_isRollup_333 (lv_at hl 13 rfl) ?_
  refine lv_icmp_le (tgt := 351) hx hb dL_isRollup_335 (by decide) (fun c72 => ?_) (fun c72 => ?_)
  · replace h := h.1 c72
    refine lv_iload hx hb dL_isRollup_351 (lv_at hl 13 rfl) ?_
    exact bk_L_isRollup_353 C0 hl9  (K := K) hK9 _ _ _ _ _ _ _ _ _ _ _ _ _ _ _ _ _ _ _ _ _ h hh hS (lv_sub hl [1, 2, 3, 4, 5, 6, 7, 8, 9, 10, 11, 12, 0, 14, 15, 16] rfl)
  · replace h := h.2 c72
    refine lv_aload_n hx hb dL_isRollup_338 rfl (lv_at hl 1 rfl) ?_
    refine lv_iload_n hx hb dL_isRollup_339 rfl (lv_at hl 2 rfl) ?_
    refine lv_iload_n hx hb dL_isRollup_340 rfl (lv_at hl 3 rfl) ?_
    refine lv_iconst (v := 1) hx hb dL_isRollup_341 (by decide) ?_
    refine lv_isub hx hb dL_isRollup_342 ?_
    refine lv_iload hx hb dL_isRollup_343 (lv_at hl 16 rfl) ?_
    obtain ⟨g76, h⟩ := h
    refine xc_i (va_runV (As := [.int l2, .int (l3 - (1 : Int32)), .int l21]) (rest := []) ⟨hx, hb, hml, hown, hts⟩ (mtq_X5_greatest l G base h) (cwV 3 hts gL_isRollup_X5_greatest rfl rfl rfl (by decide +kernel) ⟨Nat.le_of_ble_eq_true rfl, Nat.le_of_ble_eq_true rfl⟩) (xp_V hbase hh hK hX hS (ci := 5) g76 (by decide) rfl) rfl rfl hl.1 rfl (lv_room (Nat.le_of_ble_eq_true rfl)) dL_isRollup_345 ⟨Nat.le_of_ble_eq_true rfl, Nat.le_of_ble_eq_true rfl⟩) hS (fun r77 m78 H locs h hh hS => ?_)
    refine lv_goto (tgt := 353) hx hb dL_isRollup_348 (by decide) ?_
    exact bk_L_isRollup_353 C0 hl9  (K := K) hK9 _ _ _ _ _ _ _ _ _ _ _ _ _ _ _ _ _ _ _ _ _ h hh hS (lv_sub hl [1, 2, 3, 4, 5, 6, 7, 8, 9, 10, 11, 12, 0, 14, 15, 16] rfl)

set_option maxHeartbeats 4000000 in
set_option maxRecDepth 100000 in
theorem bk_L_isRollup_217 {p : Program} {l : Launch} {e : Env} {s : State} {m : MethodId} {args : Array Value} {below : List Frame} {meth : Method} {c : Code} {G : GG} {base : Nat} (C0 : BC p s m args meth c G base RL cL_isRollup 22 (some .boolean) wsL_isRollup) (hl9 : l.stackTraces = false) {Q : Int32 → MM → Prop} : ∀ (n : Nat) (l0 : Nat) (l2 : Int32) (l3 : Int32) (l4 : Int32) (l5 : Int32) (l6 : Int64) (l8 : Int32) (l9 : Int32) (l10 : Int32) (l11 : Int32) (l13 : Int32) (l14 : Int64) (l16 : Int32) (l17 : Int32) (l18 : Int32) (l19 : Int32) (l20 : Int32) (m0 : MM) (H : Heap) (locs : List Loc) (ls : Array Slot), wp_L_isRollup_217 Q n l0 l2 l3 l4 l5 l6 l8 l9 l10 l11 l13 l14 l16 l17 l18 l19 l20 m0 → hp G (xA base) m0 H → va_S (xA base) s.heap H locs → lv_has ls 22 [(0, .ref l0), (2, .int l2), (3, .int l3), (4, .int l4), (5, .int l5), (6, .long l6), (8, .int l8), (9, .int l9), (10, .int l10), (11, .int l11), (13, .int l13), (14, .long l14), (16, .int l16), (17, .int l17), (18, .int l18), (19, .int l19), (20, .int l20)] → W p l e ({ frames := 11, cells := 0, slots := 0, locals := 213 } : Room) s m args below meth c H locs 0 0 (MQ below (va_Qi Q (HB G base) (xA base)) args s 0 0 (xA base)) (F0 m 217 ls []) := by
  obtain ⟨hx, hb, hr, hml, hown, hts, hlocks, hK, hbase, hX⟩ := id C0
  intro n
  induction n with
  | zero =>
    intro l0 l2 l3 l4 l5 l6 l8 l9 l10 l11 l13 l14 l16 l17 l18 l19 l20 m0 H locs ls h
    unfold wp_L_isRollup_217 at h
    exact h.elim
  | succ n ih =>
    intro l0 l2 l3 l4 l5 l6 l8 l9 l10 l11 l13 l14 l16 l17 l18 l19 l20 m0 H locs ls h hh hS hl
    unfold wp_L_isRollup_217 at h
    refine lv_iload hx hb dL_isRollup_217 (lv_at hl 16 rfl) ?_
    refine lv_aload_n hx hb dL_isRollup_219 rfl (lv_at hl 0 rfl) ?_
    refine lv_iload_n hx hb dL_isRollup_220 rfl (lv_at hl 1 rfl) ?_
    refine lv_iload_n hx hb dL_isRollup_221 rfl (lv_at hl 2 rfl) ?_
    refine lv_iconst (v := 1) hx hb dL_isRollup_222 (by decide) ?_
    refine lv_isub hx hb dL_isRollup_223 ?_
    obtain ⟨g32, h⟩ := h
    refine xc_i (va_runV (As := [.int l2, .int (l3 - (1 : Int32))]) (rest := [.int l20]) ⟨hx, hb, hml, hown, hts⟩ (mtq_X5_rows l G base h) (cwV 2 hts gL_isRollup_X5_rows rfl rfl rfl (by decide +kernel) ⟨Nat.le_of_ble_eq_true rfl, Nat.le_of_ble_eq_true rfl⟩) (xp_V hbase hh hK hX hS (ci := 5) g32 (by decide) rfl) rfl rfl hl.1 rfl (lv_room (Nat.le_of_ble_eq_true rfl)) dL_isRollup_224 ⟨Nat.le_of_ble_eq_true rfl, Nat.le_of_ble_eq_true rfl⟩) hS (fun r33 m34 H locs h hh hS => ?_)
    refine lv_icmp_ge (tgt := 379) hx hb dL_isRollup_227 (by decide) (fun c35 => ?_) (fun c35 => ?_)
    · replace h := h.1 c35
      refine lv_iload hx hb dL_isRollup_379 (lv_at hl 10 rfl) ?_
      refine lv_iload hx hb dL_isRollup_381 (lv_at hl 4 rfl) ?_
      refine lv_icmp_ne (tgt := 442) hx hb dL_isRollup_383 (by decide) (fun c36 => ?_) (fun c36 => ?_)
      · replace h := h.1 c36
        refine lv_iconst (v := 0) hx hb dL_isRollup_442 (by decide) ?_
        exact (xe_z hx hb hr hlocks hbase hh hK hX hS (Or.inl rfl) h (Nat.le_of_ble_eq_true rfl) (Nat.le_of_ble_eq_true rfl) dL_isRollup_443)
      · replace h := h.2 c36
        refine lv_lload hx hb dL_isRollup_386 (lv_at hl 11 rfl) ?_
        refine lv_lload hx hb dL_isRollup_388 (lv_at hl 5 rfl) ?_
        refine W.lcmp hx hb dL_isRollup_390 ?_
        refine lv_if_ne (tgt := 442) hx hb dL_isRollup_391 (by decide) (fun c37 => ?_) (fun c37 => ?_)
        · replace h := h.1 c37
          refine lv_iconst (v := 0) hx hb dL_isRollup_442 (by decide) ?_
          exact (xe_z hx hb hr hlocks hbase hh hK hX hS (Or.inl rfl) h (Nat.le_of_ble_eq_true rfl) (Nat.le_of_ble_eq_true rfl) dL_isRollup_443)
        · replace h := h.2 c37
          refine lv_iload hx hb dL_isRollup_394 (lv_at hl 12 rfl) ?_
          refine lv_iload hx hb dL_isRollup_396 (lv_at hl 6 rfl) ?_
          refine lv_icmp_ne (tgt := 442) hx hb dL_isRollup_398 (by decide) (fun c38 => ?_) (fun c38 => ?_)
          · replace h := h.1 c38
            refine lv_iconst (v := 0) hx hb dL_isRollup_442 (by decide) ?_
            exact (xe_z hx hb hr hlocks hbase hh hK hX hS (Or.inl rfl) h (Nat.le_of_ble_eq_true rfl) (Nat.le_of_ble_eq_true rfl) dL_isRollup_443)
          · replace h := h.2 c38
            refine lv_iload hx hb dL_isRollup_401 (lv_at hl 13 rfl) ?_
            refine lv_iload hx hb dL_isRollup_403 (lv_at hl 7 rfl) ?_
            refine lv_icmp_ne (tgt := 442) hx hb dL_isRollup_405 (by decide) (fun c39 => ?_) (fun c39 => ?_)
            · replace h := h.1 c39
              refine lv_iconst (v := 0) hx hb dL_isRollup_442 (by decide) ?_
              exact (xe_z hx hb hr hlocks hbase hh hK hX hS (Or.inl rfl) h (Nat.le_of_ble_eq_true rfl) (Nat.le_of_ble_eq_true rfl) dL_isRollup_443)
            · replace h := h.2 c39
              refine lv_aload_n hx hb dL_isRollup_408 rfl (lv_at hl 0 rfl) ?_
              refine lv_iload_n hx hb dL_isRollup_409 rfl (lv_at hl 1 rfl) ?_
              refine lv_iload_n hx hb dL_isRollup_410 rfl (lv_at hl 2 rfl) ?_
              refine lv_iconst (v := 1) hx hb dL_isRollup_411 (by decide) ?_
              refine lv_isub hx hb dL_isRollup_412 ?_
              refine lv_iload hx hb dL_isRollup_413 (lv_at hl 14 rfl) ?_
              obtain ⟨g40, h⟩ := h
              refine xc_i (va_runV (As := [.int l2, .int (l3 - (1 : Int32)), .int l18]) (rest := []) ⟨hx, hb, hml, hown, hts⟩ (mtq_X5_first l G base h) (cwV 3 hts gL_isRollup_X5_first rfl rfl rfl (by decide +kernel) ⟨Nat.le_of_ble_eq_true rfl, Nat.le_of_ble_eq_true rfl⟩) (xp_V hbase hh hK hX hS (ci := 5) g40 (by decide) rfl) rfl rfl hl.1 rfl (lv_room (Nat.le_of_ble_eq_true rfl)) dL_isRollup_415 ⟨Nat.le_of_ble_eq_true rfl, Nat.le_of_ble_eq_true rfl⟩) hS (fun r41 m42 H locs h hh hS => ?_)
              refine lv_iload hx hb dL_isRollup_418 (lv_at hl 8 rfl) ?_
              refine lv_icmp_ne (tgt := 442) hx hb dL_isRollup_420 (by decide) (fun c43 => ?_) (fun c43 => ?_)
              · replace h := h.1 c43
                refine lv_iconst (v := 0) hx hb dL_isRollup_442 (by decide) ?_
                exact (xe_z hx hb hr hlocks hbase hh hK hX hS (Or.inl rfl) h (Nat.le_of_ble_eq_true rfl) (Nat.le_of_ble_eq_true rfl) dL_isRollup_443)
              · replace h := h.2 c43
                refine lv_aload_n hx hb dL_isRollup_423 rfl (lv_at hl 0 rfl) ?_
                refine lv_iload_n hx hb dL_isRollup_424 rfl (lv_at hl 1 rfl) ?_
                refine lv_iload_n hx hb dL_isRollup_425 rfl (lv_at hl 2 rfl) ?_
                refine lv_iconst (v := 1) hx hb dL_isRollup_426 (by decide) ?_
                refine lv_isub hx hb dL_isRollup_427 ?_
                refine lv_iload hx hb dL_isRollup_428 (lv_at hl 15 rfl) ?_
                obtain ⟨g44, h⟩ := h
                refine xc_i (va_runV (As := [.int l2, .int (l3 - (1 : Int32)), .int l19]) (rest := []) ⟨hx, hb, hml, hown, hts⟩ (mtq_X5_last l G base h) (cwV 3 hts gL_isRollup_X5_last rfl rfl rfl (by decide +kernel) ⟨Nat.le_of_ble_eq_true rfl, Nat.le_of_ble_eq_true rfl⟩) (xp_V hbase hh hK hX hS (ci := 5) g44 (by decide) rfl) rfl rfl hl.1 rfl (lv_room (Nat.le_of_ble_eq_true rfl)) dL_isRollup_430 ⟨Nat.le_of_ble_eq_true rfl, Nat.le_of_ble_eq_true rfl⟩) hS (fun r45 m46 H locs h hh hS => ?_)
                refine lv_iload hx hb dL_isRollup_433 (lv_at hl 9 rfl) ?_
                refine lv_icmp_ne (tgt := 442) hx hb dL_isRollup_435 (by decide) (fun c47 => ?_) (fun c47 => ?_)
                · replace h := h.1 c47
                  refine lv_iconst (v := 0) hx hb dL_isRollup_442 (by decide) ?_
                  exact (xe_z hx hb hr hlocks hbase hh hK hX hS (Or.inl rfl) h (Nat.le_of_ble_eq_true rfl) (Nat.le_of_ble_eq_true rfl) dL_isRollup_443)
                · replace h := h.2 c47
                  refine lv_iconst (v := 1) hx hb dL_isRollup_438 (by decide) ?_
                  refine lv_goto (tgt := 443) hx hb dL_isRollup_439 (by decide) ?_
                  exact (xe_z hx hb hr hlocks hbase hh hK hX hS (Or.inr rfl) h (Nat.le_of_ble_eq_true rfl) (Nat.le_of_ble_eq_true rfl) dL_isRollup_443)
    · replace h := h.2 c35
      refine lv_aload_n hx hb dL_isRollup_230 rfl (lv_at hl 0 rfl) ?_
      refine lv_iload_n hx hb dL_isRollup_231 rfl (lv_at hl 1 rfl) ?_
      refine lv_iload_n hx hb dL_isRollup_232 rfl (lv_at hl 2 rfl) ?_
      refine lv_iconst (v := 1) hx hb dL_isRollup_233 (by decide) ?_
      refine lv_isub hx hb dL_isRollup_234 ?_
      refine lv_iload hx hb dL_isRollup_235 (lv_at hl 16 rfl) ?_
      obtain ⟨g48, h⟩ := h
      refine xc_i (va_runV (As := [.int l2, .int (l3 - (1 : Int32)), .int l20]) (rest := []) ⟨hx, hb, hml, hown, hts⟩ (mtq_X5_timeOf l G base h) (cwV 3 hts gL_isRollup_X5_timeOf rfl rfl rfl (by decide +kernel) ⟨Nat.le_of_ble_eq_true rfl, Nat.le_of_ble_eq_true rfl⟩) (xp_V hbase hh hK hX hS (ci := 5) g48 (by decide) rfl) rfl rfl hl.1 rfl (lv_room (Nat.le_of_ble_eq_true rfl)) dL_isRollup_237 ⟨Nat.le_of_ble_eq_true rfl, Nat.le_of_ble_eq_true rfl⟩) hS (fun r49 m50 H locs h hh hS => ?_)
      refine lv_istore (lv' := [(21, .int r49), (0, .ref l0), (2, .int l2), (3, .int l3), (4, .int l4), (5, .int l5), (6, .long l6), (8, .int l8), (9, .int l9), (10, .int l10), (11, .int l11), (13, .int l13), (14, .long l14), (16, .int l16), (17, .int l17), (18, .int l18), (19, .int l19), (20, .int l20)]) hx hb dL_isRollup_240 hl (by decide) rfl (fun ls hl => ?_)
      refine lv_iload hx hb dL_isRollup_242 (lv_at hl 0 rfl) ?_
      refine lv_iload hx hb dL_isRollup_244 (lv_at hl 4 rfl) ?_
      refine lv_icmp_lt (tgt := 373) hx hb dL_isRollup_246 (by decide) (fun c51 => ?_) (fun c51 => ?_)
      · replace h := h.1 c51
        obtain ⟨x52, ex52⟩ : ∃ y : Int32, y = l20 + 1 := ⟨_, rfl⟩
        replace h := h x52 ex52
        refine lv_iinc (v := x52) (lv' := [(20, .int x52), (21, .int r49), (0, .ref l0), (2, .int l2), (3, .int l3), (4, .int l4), (5, .int l5), (6, .long l6), (8, .int l8), (9, .int l9), (10, .int l10), (11, .int l11), (13, .int l13), (14, .long l14), (16, .int l16), (17, .int l17), (18, .int l18), (19, .int l19)]) hx hb dL_isRollup_373 hl (k := 17) rfl (by rw [ex52]; rfl) (by decide) rfl (fun ls hl => ?_)
        refine lv_goto (tgt := 217) hx hb dL_isRollup_376 (by decide) ?_
        exact ih _ _ _ _ _ _ _ _ _ _ _ _ _ _ _ _ _ _ _ _ _ h hh hS (lv_sub hl [2, 3, 4, 5, 6, 7, 8, 9, 10, 11, 12, 13, 14, 15, 16, 17, 0] rfl)
      · replace h := h.2 c51
        refine lv_iload hx hb dL_isRollup_249 (lv_at hl 0 rfl) ?_
        refine lv_iload hx hb dL_isRollup_251 (lv_at hl 4 rfl) ?_
        refine lv_iload_n hx hb dL_isRollup_253 rfl (lv_at hl 3 rfl) ?_
        refine xc_i (va_runS (As := [.int l3]) (rest := [.int l4, .int r49]) ⟨hx, hb, hml, hown, hts⟩ (mt_L_length l hl9 G base h) (va_cwS 1 hts gL_isRollup_L_length rfl rfl rfl (by decide +kernel) ⟨Nat.le_of_ble_eq_true rfl, Nat.le_of_ble_eq_true rfl⟩) (xp_S hbase hh hK hX hS) rfl rfl hl.1 rfl (lv_room (Nat.le_of_ble_eq_true rfl)) dL_isRollup_254 ⟨Nat.le_of_ble_eq_true rfl, Nat.le_of_ble_eq_true rfl⟩) hS (fun r53 m54 H locs h hh hS => ?_)
        refine lv_iadd hx hb dL_isRollup_257 ?_
        refine lv_icmp_ge (tgt := 373) hx hb dL_isRollup_258 (by decide) (fun c55 => ?_) (fun c55 => ?_)
        · replace h := h.1 c55
          obtain ⟨x56, ex56⟩ : ∃ y : Int32, y = l20 + 1 := ⟨_, rfl⟩
          replace h := h x56 ex56
          refine lv_iinc (v := x56) (lv' := [(20, .int x56), (21, .int r49), (0, .ref l0), (2, .int l2), (3, .int l3), (4, .int l4), (5, .int l5), (6, .long l6), (8, .int l8), (9, .int l9), (10, .int l10), (11, .int l11), (13, .int l13), (14, .long l14), (16, .int l16), (17, .int l17), (18, .int l18), (19, .int l19)]) hx hb dL_isRollup_373 hl (k := 17) rfl (by rw [ex56]; rfl) (by decide) rfl (fun ls hl => ?_)
          refine lv_goto (tgt := 217) hx hb dL_isRollup_376 (by decide) ?_
          exact ih _ _ _ _ _ _ _ _ _ _ _ _ _ _ _ _ _ _ _ _ _ h hh hS (lv_sub hl [2, 3, 4, 5, 6, 7, 8, 9, 10, 11, 12, 13, 14, 15, 16, 17, 0] rfl)
        · replace h := h.2 c55
          refine lv_iload hx hb dL_isRollup_261 (lv_at hl 11 rfl) ?_
          refine lv_aload_n hx hb dL_isRollup_263 rfl (lv_at hl 1 rfl) ?_
          refine lv_iload_n hx hb dL_isRollup_264 rfl (lv_at hl 2 rfl) ?_
          refine lv_iload_n hx hb dL_isRollup_265 rfl (lv_at hl 3 rfl) ?_
          refine lv_iconst (v := 1) hx hb dL_isRollup_266 (by decide) ?_
          refine lv_isub hx hb dL_isRollup_267 ?_
          refine lv_iload hx hb dL_isRollup_268 (lv_at hl 0 rfl) ?_
          obtain ⟨g57, h⟩ := h
          refine xc_i (va_runV (As := [.int l2, .int (l3 - (1 : Int32)), .int r49]) (rest := [.int l13]) ⟨hx, hb, hml, hown, hts⟩ (mtq_X5_count l G base h) (cwV 3 hts gL_isRollup_X5_count rfl rfl rfl (by decide +kernel) ⟨Nat.le_of_ble_eq_true rfl, Nat.le_of_ble_eq_true rfl⟩) (xp_V hbase hh hK hX hS (ci := 5) g57 (by decide) rfl) rfl rfl hl.1 rfl (lv_room (Nat.le_of_ble_eq_true rfl)) dL_isRollup_270 ⟨Nat.le_of_ble_eq_true rfl, Nat.le_of_ble_eq_true rfl⟩) hS (fun r58 m59 H locs h hh hS => ?_)
          refine lv_iadd hx hb dL_isRollup_273 ?_
          refine lv_topi (fun x60 ex60 => ?_)
          replace h := h x60 ex60
          refine lv_istore (lv' := [(13, .int x60), (21, .int r49), (0, .ref l0), (2, .int l2), (3, .int l3), (4, .int l4), (5, .int l5), (6, .long l6), (8, .int l8), (9, .int l9), (10, .int l10), (11, .int l11), (14, .long l14), (16, .int l16), (17, .int l17), (18, .int l18), (19, .int l19), (20, .int l20)]) hx hb dL_isRollup_274 hl (by decide) rfl (fun ls hl => ?_)
          refine lv_lload hx hb dL_isRollup_276 (lv_at hl 12 rfl) ?_
          refine lv_aload_n hx hb dL_isRollup_278 rfl (lv_at hl 2 rfl) ?_
          refine lv_iload_n hx hb dL_isRollup_279 rfl (lv_at hl 3 rfl) ?_
          refine lv_iload_n hx hb dL_isRollup_280 rfl (lv_at hl 4 rfl) ?_
          refine lv_iconst (v := 1) hx hb dL_isRollup_281 (by decide) ?_
          refine lv_isub hx hb dL_isRollup_282 ?_
          refine lv_iload hx hb dL_isRollup_283 (lv_at hl 1 rfl) ?_
          obtain ⟨g61, h⟩ := h
          refine xc_l (va_runV (As := [.int l2, .int (l3 - (1 : Int32)), .int r49]) (rest := [.long l14]) ⟨hx, hb, hml, hown, hts⟩ (mtq_X5_sum l G base h) (cwV 3 hts gL_isRollup_X5_sum rfl rfl rfl (by decide +kernel) ⟨Nat.le_of_ble_eq_true rfl, Nat.le_of_ble_eq_true rfl⟩) (xp_V hbase hh hK hX hS (ci := 5) g61 (by decide) rfl) rfl rfl hl.1 rfl (lv_room (Nat.le_of_ble_eq_true rfl)) dL_isRollup_285 ⟨Nat.le_of_ble_eq_true rfl, Nat.le_of_ble_eq_true rfl⟩) hS (fun r62 m63 H locs h hh hS => ?_)
          refine lv_ladd hx hb dL_isRollup_288 ?_
          refine lv_topl (fun x64 ex64 => ?_)
          replace h := h x64 ex64
          refine lv_lstore (lv' := [(14, .long x64), (13, .int x60), (21, .int r49), (0, .ref l0), (2, .int l2), (3, .int l3), (4, .int l4), (5, .int l5), (6, .long l6), (8, .int l8), (9, .int l9), (10, .int l10), (11, .int l11), (16, .int l16), (17, .int l17), (18, .int l18), (19, .int l19), (20, .int l20)]) hx hb dL_isRollup_289 hl (by decide) rfl (fun ls hl => ?_)
          refine lv_aload_n hx hb dL_isRollup_291 rfl (lv_at hl 3 rfl) ?_
          refine lv_iload_n hx hb dL_isRollup_292 rfl (lv_at hl 4 rfl) ?_
          refine lv_iload_n hx hb dL_isRollup_293 rfl (lv_at hl 5 rfl) ?_
          refine lv_iconst (v := 1) hx hb dL_isRollup_294 (by decide) ?_
          refine lv_isub hx hb dL_isRollup_295 ?_
          refine lv_iload hx hb dL_isRollup_296 (lv_at hl 2 rfl) ?_
          obtain ⟨g65, h⟩ := h
          refine xc_i (va_runV (As := [.int l2, .int (l3 - (1 : Int32)), .int r49]) (rest := []) ⟨hx, hb, hml, hown, hts⟩ (mtq_X5_least l G base h) (cwV 3 hts gL_isRollup_X5_least rfl rfl rfl (by decide +kernel) ⟨Nat.le_of_ble_eq_true rfl, Nat.le_of_ble_eq_true rfl⟩) (xp_V hbase hh hK hX hS (ci := 5) g65 (by decide) rfl) rfl rfl hl.1 rfl (lv_room (Nat.le_of_ble_eq_true rfl)) dL_isRollup_298 ⟨Nat.le_of_ble_eq_true rfl, Nat.le_of_ble_eq_true rfl⟩) hS (fun r66 m67 H locs h hh hS => ?_)
          refine lv_iload hx hb dL_isRollup_301 (lv_at hl 13 rfl) ?_
          refine lv_icmp_ge (tgt := 319) hx hb dL_isRollup_303 (by decide) (fun c68 => ?_) (fun c68 => ?_)
          · replace h := h.1 c68
            refine lv_iload hx hb dL_isRollup_319 (lv_at hl 13 rfl) ?_
            exact bk_L_isRollup_321 C0 hl9  (K := wp_L_isRollup_217 Q n) ih _ _ _ _ _ _ _ _ _ _ _ _ _ _ _ _ _ _ _ _ _ h hh hS (lv_sub hl [3, 4, 5, 6, 7, 8, 9, 10, 11, 12, 1, 0, 14, 15, 17, 2] rfl)
          · replace h := h.2 c68
            refine lv_aload_n hx hb dL_isRollup_306 rfl (lv_at hl 3 rfl) ?_
            refine lv_iload_n hx hb dL_isRollup_307 rfl (lv_at hl 4 rfl) ?_
            refine lv_iload_n hx hb dL_isRollup_308 rfl (lv_at hl 5 rfl) ?_
            refine lv_iconst (v := 1) hx hb dL_isRollup_309 (by decide) ?_
            refine lv_isub hx hb dL_isRollup_310 ?_
            refine lv_iload hx hb dL_isRollup_311 (lv_at hl 2 rfl) ?_
            obtain ⟨g79, h⟩ := h
            refine xc_i (va_runV (As := [.int l2, .int (l3 - (1 : Int32)), .int r49]) (rest := []) ⟨hx, hb, hml, hown, hts⟩ (mtq_X5_least l G base h) (cwV 3 hts gL_isRollup_X5_least rfl rfl rfl (by decide +kernel) ⟨Nat.le_of_ble_eq_true rfl, Nat.le_of_ble_eq_true rfl⟩) (xp_V hbase hh hK hX hS (ci := 5) g79 (by decide) rfl) rfl rfl hl.1 rfl (lv_room (Nat.le_of_ble_eq_true rfl)) dL_isRollup_313 ⟨Nat.le_of_ble_eq_true rfl, Nat.le_of_ble_eq_true rfl⟩) hS (fun r80 m81 H locs h hh hS => ?_)
            refine lv_goto (tgt := 321) hx hb dL_isRollup_316 (by decide) ?_
            exact bk_L_isRollup_321 C0 hl9  (K := wp_L_isRollup_217 Q n) ih _ _ _ _ _ _ _ _ _ _ _ _ _ _ _ _ _ _ _ _ _ h hh hS (lv_sub hl [3, 4, 5, 6, 7, 8, 9, 10, 11, 12, 1, 0, 14, 15, 17, 2] rfl)

set_option maxHeartbeats 4000000 in
set_option maxRecDepth 100000 in
theorem bk_L_isRollup_166 {p : Program} {l : Launch} {e : Env} {s : State} {m : MethodId} {args : Array Value} {below : List Frame} {meth : Method} {c : Code} {G : GG} {base : Nat} (C0 : BC p s m args meth c G base RL cL_isRollup 22 (some .boolean) wsL_isRollup) (hl9 : l.stackTraces = false) {Q : Int32 → MM → Prop} : ∀ (l0 : Nat) (l1 : Nat) (l2 : Int32) (l3 : Int32) (l4 : Int32) (l5 : Int32) (l6 : Int64) (l8 : Int32) (l9 : Int32) (l10 : Int32) (l11 : Int32) (s0 : Int32) (m0 : MM) (H : Heap) (locs : List Loc) (ls : Array Slot), wp_L_isRollup_166 Q l0 l1 l2 l3 l4 l5 l6 l8 l9 l10 l11 s0 m0 → hp G (xA base) m0 H → va_S (xA base) s.heap H locs → lv_has ls 22 [(0, .ref l0), (1, .ref l1), (2, .int l2), (3, .int l3), (4, .int l4), (5, .int l5), (6, .long l6), (8, .int l8), (9, .int l9), (10, .int l10), (11, .int l11)] → W p l e ({ frames := 11, cells := 0, slots := 0, locals := 213 } : Room) s m args below meth c H locs 0 0 (MQ below (va_Qi Q (HB G base) (xA base)) args s 0 0 (xA base)) (F0 m 166 ls [.int s0]) := by
  obtain ⟨hx, hb, hr, hml, hown, hts, hlocks, hK, hbase, hX⟩ := id C0
  intro l0 l1 l2 l3 l4 l5 l6 l8 l9 l10 l11 s0 m0 H locs ls h hh hS hl
  unfold wp_L_isRollup_166 at h
  have q1 : (Cond.constant RL 82 (1000001)).before _ s = true := hts _ (List.mem_cons_of_mem _ (List.mem_append_left _ (List.mem_append_left _ (List.mem_append_left _ (List.mem_append_left _ (List.mem_append_left _ (List.mem_append_left _ (List.mem_append_left _ (List.mem_append_left _ (List.mem_append_left _ (List.mem_of_getElem? (i := 0) rfl)))))))))))
  have q2 : (Cond.constant RL 83 (-1000001)).before _ s = true := hts _ (List.mem_cons_of_mem _ (List.mem_append_left _ (List.mem_append_left _ (List.mem_append_left _ (List.mem_append_left _ (List.mem_append_left _ (List.mem_append_left _ (List.mem_append_left _ (List.mem_append_left _ (List.mem_append_left _ (List.mem_of_getElem? (i := 1) rfl)))))))))))
  refine lv_istore (lv' := [(12, .int s0), (0, .ref l0), (1, .ref l1), (2, .int l2), (3, .int l3), (4, .int l4), (5, .int l5), (6, .long l6), (8, .int l8), (9, .int l9), (10, .int l10), (11, .int l11)]) hx hb dL_isRollup_166 hl (by decide) rfl (fun ls hl => ?_)
  refine lv_iload_n hx hb dL_isRollup_168 rfl (lv_at hl 4 rfl) ?_
  refine lv_iconst (v := 1) hx hb dL_isRollup_169 (by decide) ?_
  refine lv_icmp_eq (tgt := 191) hx hb dL_isRollup_170 (by decide) (fun c20 => ?_) (fun c20 => ?_)
  · replace h := h.1 c20
    refine lv_iload hx hb dL_isRollup_191 (lv_at hl 0 rfl) ?_
    exact (xe_z hx hb hr hlocks hbase hh hK hX hS h.1 h.2 (Nat.le_of_ble_eq_true rfl) (Nat.le_of_ble_eq_true rfl) dL_isRollup_193)
  · replace h := h.2 c20
    refine lv_aload_n hx hb dL_isRollup_173 rfl (lv_at hl 2 rfl) ?_
    refine lv_iload_n hx hb dL_isRollup_174 rfl (lv_at hl 4 rfl) ?_
    refine lv_iconst (v := 1) hx hb dL_isRollup_175 (by decide) ?_
    refine lv_isub hx hb dL_isRollup_176 ?_
    refine lv_iload hx hb dL_isRollup_177 (lv_at hl 5 rfl) ?_
    refine lv_i2l hx hb dL_isRollup_179 rfl ?_
    refine xc_i (va_runS (As := [.ref l1, .int (l3 - (1 : Int32)), .long l4.toInt64]) (rest := []) ⟨hx, hb, hml, hown, hts⟩ (mt_L_isGone l hl9 G base h) (va_cwS 3 hts gL_isRollup_L_isGone rfl rfl rfl (by decide +kernel) ⟨Nat.le_of_ble_eq_true rfl, Nat.le_of_ble_eq_true rfl⟩) (xp_S hbase hh hK hX hS) rfl rfl hl.1 rfl (lv_room (Nat.le_of_ble_eq_true rfl)) dL_isRollup_180 ⟨Nat.le_of_ble_eq_true rfl, Nat.le_of_ble_eq_true rfl⟩) hS (fun r21 m22 H locs h hh hS => ?_)
    refine lv_if_ne (tgt := 191) hx hb dL_isRollup_183 (by decide) (fun c23 => ?_) (fun c23 => ?_)
    · replace h := h.1 c23
      refine lv_iload hx hb dL_isRollup_191 (lv_at hl 0 rfl) ?_
      exact (xe_z hx hb hr hlocks hbase hh hK hX hS h.1 h.2 (Nat.le_of_ble_eq_true rfl) (Nat.le_of_ble_eq_true rfl) dL_isRollup_193)
    · replace h := h.2 c23
      refine lv_iload hx hb dL_isRollup_186 (lv_at hl 0 rfl) ?_
      refine lv_if_ne (tgt := 194) hx hb dL_isRollup_188 (by decide) (fun c24 => ?_) (fun c24 => ?_)
      · replace h := h.1 c24
        refine lv_iconst (v := 0) hx hb dL_isRollup_194 (by decide) ?_
        refine lv_topi (fun x25 ex25 => ?_)
        replace h := h x25 ex25
        refine lv_istore (lv' := [(13, .int x25), (12, .int s0), (0, .ref l0), (1, .ref l1), (2, .int l2), (3, .int l3), (4, .int l4), (5, .int l5), (6, .long l6), (8, .int l8), (9, .int l9), (10, .int l10), (11, .int l11)]) hx hb dL_isRollup_195 hl (by decide) rfl (fun ls hl => ?_)
        refine lv_lconst (v := 0) hx hb dL_isRollup_197 (by decide) ?_
        refine lv_topl (fun x26 ex26 => ?_)
        replace h := h x26 ex26
        refine lv_lstore (lv' := [(14, .long x26), (13, .int x25), (12, .int s0), (0, .ref l0), (1, .ref l1), (2, .int l2), (3, .int l3), (4, .int l4), (5, .int l5), (6, .long l6), (8, .int l8), (9, .int l9), (10, .int l10), (11, .int l11)]) hx hb dL_isRollup_198 hl (by decide) rfl (fun ls hl => ?_)
        refine lv_ldc hx hb hown q1 dL_isRollup_200 ?_
        refine lv_topi (fun x27 ex27 => ?_)
        replace h := h x27 ex27
        refine lv_istore (lv' := [(16, .int x27), (14, .long x26), (13, .int x25), (12, .int s0), (0, .ref l0), (1, .ref l1), (2, .int l2), (3, .int l3), (4, .int l4), (5, .int l5), (6, .long l6), (8, .int l8), (9, .int l9), (10, .int l10), (11, .int l11)]) hx hb dL_isRollup_202 hl (by decide) rfl (fun ls hl => ?_)
        refine lv_ldc hx hb hown q2 dL_isRollup_204 ?_
        refine lv_topi (fun x28 ex28 => ?_)
        replace h := h x28 ex28
        refine lv_istore (lv' := [(17, .int x28), (16, .int x27), (14, .long x26), (13, .int x25), (12, .int s0), (0, .ref l0), (1, .ref l1), (2, .int l2), (3, .int l3), (4, .int l4), (5, .int l5), (6, .long l6), (8, .int l8), (9, .int l9), (10, .int l10), (11, .int l11)]) hx hb dL_isRollup_206 hl (by decide) rfl (fun ls hl => ?_)
        refine lv_iconst (v := -1) hx hb dL_isRollup_208 (by decide) ?_
        refine lv_topi (fun x29 ex29 => ?_)
        replace h := h x29 ex29
        refine lv_istore (lv' := [(18, .int x29), (17, .int x28), (16, .int x27), (14, .long x26), (13, .int x25), (12, .int s0), (0, .ref l0), (1, .ref l1), (2, .int l2), (3, .int l3), (4, .int l4), (5, .int l5), (6, .long l6), (8, .int l8), (9, .int l9), (10, .int l10), (11, .int l11)]) hx hb dL_isRollup_209 hl (by decide) rfl (fun ls hl => ?_)
        refine lv_iconst (v := -1) hx hb dL_isRollup_211 (by decide) ?_
        refine lv_topi (fun x30 ex30 => ?_)
        replace h := h x30 ex30
        refine lv_istore (lv' := [(19, .int x30), (18, .int x29), (17, .int x28), (16, .int x27), (14, .long x26), (13, .int x25), (12, .int s0), (0, .ref l0), (1, .ref l1), (2, .int l2), (3, .int l3), (4, .int l4), (5, .int l5), (6, .long l6), (8, .int l8), (9, .int l9), (10, .int l10), (11, .int l11)]) hx hb dL_isRollup_212 hl (by decide) rfl (fun ls hl => ?_)
        refine lv_iconst (v := 0) hx hb dL_isRollup_214 (by decide) ?_
        refine lv_topi (fun x31 ex31 => ?_)
        replace h := h x31 ex31
        refine lv_istore (lv' := [(20, .int x31), (19, .int x30), (18, .int x29), (17, .int x28), (16, .int x27), (14, .long x26), (13, .int x25), (12, .int s0), (0, .ref l0), (1, .ref l1), (2, .int l2), (3, .int l3), (4, .int l4), (5, .int l5), (6, .long l6), (8, .int l8), (9, .int l9), (10, .int l10), (11, .int l11)]) hx hb dL_isRollup_215 hl (by decide) rfl (fun ls hl => ?_)
        obtain ⟨n9, h⟩ := h
        exact bk_L_isRollup_217 C0 hl9  n9 _ _ _ _ _ _ _ _ _ _ _ _ _ _ _ _ _ _ _ _ _ h hh hS (lv_sub hl [8, 10, 11, 12, 13, 14, 15, 16, 17, 18, 6, 5, 4, 3, 2, 1, 0] rfl)
      · replace h := h.2 c24
        refine lv_iload hx hb dL_isRollup_191 (lv_at hl 0 rfl) ?_
        exact (xe_z hx hb hr hlocks hbase hh hK hX hS h.1 h.2 (Nat.le_of_ble_eq_true rfl) (Nat.le_of_ble_eq_true rfl) dL_isRollup_193)

set_option maxHeartbeats 4000000 in
set_option maxRecDepth 100000 in
theorem bk_L_isRollup_165 {p : Program} {l : Launch} {e : Env} {s : State} {m : MethodId} {args : Array Value} {below : List Frame} {meth : Method} {c : Code} {G : GG} {base : Nat} (C0 : BC p s m args meth c G base RL cL_isRollup 22 (some .boolean) wsL_isRollup) (hl9 : l.stackTraces = false) {Q : Int32 → MM → Prop} : ∀ (l0 : Nat) (l1 : Nat) (l2 : Int32) (l3 : Int32) (l4 : Int32) (l5 : Int32) (l6 : Int64) (l8 : Int32) (l9 : Int32) (l10 : Int32) (l11 : Int32) (m0 : MM) (H : Heap) (locs : List Loc) (ls : Array Slot), wp_L_isRollup_165 Q l0 l1 l2 l3 l4 l5 l6 l8 l9 l10 l11 m0 → hp G (xA base) m0 H → va_S (xA base) s.heap H locs → lv_has ls 22 [(0, .ref l0), (1, .ref l1), (2, .int l2), (3, .int l3), (4, .int l4), (5, .int l5), (6, .long l6), (8, .int l8), (9, .int l9), (10, .int l10), (11, .int l11)] → W p l e ({ frames := 11, cells := 0, slots := 0, locals := 213 } : Room) s m args below meth c H locs 0 0 (MQ below (va_Qi Q (HB G base) (xA base)) args s 0 0 (xA base)) (F0 m 165 ls []) := by
  obtain ⟨hx, hb, hr, hml, hown, hts, hlocks, hK, hbase, hX⟩ := id C0
  intro l0 l1 l2 l3 l4 l5 l6 l8 l9 l10 l11 m0 H locs ls h hh hS hl
  unfold wp_L_isRollup_165 at h
  refine lv_iconst (v := 0) hx hb dL_isRollup_165 (by decide) ?_
  exact bk_L_isRollup_166 C0 hl9  _ _ _ _ _ _ _ _ _ _ _ _ _ _ _ _ h hh hS (lv_sub hl [0, 1, 2, 3, 4, 5, 6, 7, 8, 9, 10] rfl)

set_option maxHeartbeats 4000000 in
set_option maxRecDepth 100000 in
theorem bk_L_isRollup_142 {p : Program} {l : Launch} {e : Env} {s : State} {m : MethodId} {args : Array Value} {below : List Frame} {meth : Method} {c : Code} {G : GG} {base : Nat} (C0 : BC p s m args meth c G base RL cL_isRollup 22 (some .boolean) wsL_isRollup) (hl9 : l.stackTraces = false) {Q : Int32 → MM → Prop} : ∀ (l0 : Nat) (l1 : Nat) (l2 : Int32) (l3 : Int32) (l4 : Int32) (l5 : Int32) (l6 : Int64) (l8 : Int32) (l9 : Int32) (l10 : Int32) (l11 : Int32) (m0 : MM) (H : Heap) (locs : List Loc) (ls : Array Slot), wp_L_isRollup_142 Q l0 l1 l2 l3 l4 l5 l6 l8 l9 l10 l11 m0 → hp G (xA base) m0 H → va_S (xA base) s.heap H locs → lv_has ls 22 [(0, .ref l0), (1, .ref l1), (2, .int l2), (3, .int l3), (4, .int l4), (5, .int l5), (6, .long l6), (8, .int l8), (9, .int l9), (10, .int l10), (11, .int l11)] → W p l e ({ frames := 11, cells := 0, slots := 0, locals := 213 } : Room) s m args below meth c H locs 0 0 (MQ below (va_Qi Q (HB G base) (xA base)) args s 0 0 (xA base)) (F0 m 142 ls []) := by
  obtain ⟨hx, hb, hr, hml, hown, hts, hlocks, hK, hbase, hX⟩ := id C0
  intro l0 l1 l2 l3 l4 l5 l6 l8 l9 l10 l11 m0 H locs ls h hh hS hl
  unfold wp_L_isRollup_142 at h
  refine lv_aload_n hx hb dL_isRollup_142 rfl (lv_at hl 0 rfl) ?_
  refine lv_iload_n hx hb dL_isRollup_143 rfl (lv_at hl 2 rfl) ?_
  refine lv_iload_n hx hb dL_isRollup_144 rfl (lv_at hl 3 rfl) ?_
  refine lv_iload hx hb dL_isRollup_145 (lv_at hl 4 rfl) ?_
  obtain ⟨g89, h⟩ := h
  refine xc_d (va_runV (As := [.int l2, .int l3, .int l4]) (rest := []) ⟨hx, hb, hml, hown, hts⟩ (mtq_X5_average l G base h) (cwV 3 hts gL_isRollup_X5_average rfl rfl rfl (by decide +kernel) ⟨Nat.le_of_ble_eq_true rfl, Nat.le_of_ble_eq_true rfl⟩) (xp_V hbase hh hK hX hS (ci := 5) g89 (by decide) rfl) rfl rfl hl.1 rfl (lv_room (Nat.le_of_ble_eq_true rfl)) dL_isRollup_147 ⟨Nat.le_of_ble_eq_true rfl, Nat.le_of_ble_eq_true rfl⟩) hS (fun r90 m91 H locs h hh hS => ?_)
  refine lv_lload hx hb dL_isRollup_150 (lv_at hl 6 rfl) ?_
  refine lv_l2d hx hb dL_isRollup_152 ?_
  refine lv_iload hx hb dL_isRollup_153 (lv_at hl 5 rfl) ?_
  refine lv_i2d hx hb dL_isRollup_155 ?_
  obtain ⟨g92, h⟩ := h
  refine lv_ddiv hx hb dL_isRollup_156 g92 ?_
  refine lv_dcmp hx hb dL_isRollup_157 ?_
  refine lv_if_ne (tgt := 165) hx hb dL_isRollup_158 (by decide) (fun c93 => ?_) (fun c93 => ?_)
  · replace h := h.1 c93
    exact bk_L_isRollup_165 C0 hl9  _ _ _ _ _ _ _ _ _ _ _ _ _ _ _ h hh hS (lv_sub hl [0, 1, 2, 3, 4, 5, 6, 7, 8, 9, 10] rfl)
  · replace h := h.2 c93
    refine lv_iconst (v := 1) hx hb dL_isRollup_161 (by decide) ?_
    refine lv_goto (tgt := 166) hx hb dL_isRollup_162 (by decide) ?_
    exact bk_L_isRollup_166 C0 hl9  _ _ _ _ _ _ _ _ _ _ _ _ _ _ _ _ h hh hS (lv_sub hl [0, 1, 2, 3, 4, 5, 6, 7, 8, 9, 10] rfl)

set_option maxHeartbeats 4000000 in
set_option maxRecDepth 100000 in
theorem mt_L_isRollup (l : Launch) (hl9 : l.stackTraces = false) (G : GG) (base : Nat) {p1 : Nat} {p2 : Nat} {p3 : Int32} {p4 : Int32} {p5 : Int32} {m0 : MM} {Q : Int32 → MM → Prop} (h : wp_L_isRollup p1 p2 p3 p4 p5 m0 Q) : Met l yL_isRollup wsL_isRollup ({ frames := 11, cells := 0, slots := 0, locals := 213 }) (va_Pc [.ref p1, .ref p2, .int p3, .int p4, .int p5] (SP G base m0)) (va_Qi Q (HB G base) (xA base)) 0 0 (xA base) := by
  refine Met.ofW (cc := cL_isRollup) (maxL := 22) (ret := (some .boolean)) (by decide) rfl ?_
  intro p e s m args below meth c s₁ B hml hv
  obtain ⟨rfl, hbase, hh, hK, hX⟩ := hv
  have C0 : BC p s m _ meth c G base RL cL_isRollup 22 (some .boolean) wsL_isRollup := ⟨B.exec, B.bytes, B.returns, hml, findClass_of_methodNamed B.named, atoms_spec (ws := wsL_isRollup) B.pre, B.notSynchronized, hK, hbase, hX⟩
  obtain ⟨hx, hb, hr, -, hown, hts, hlocks, -, -, -⟩ := id C0
  have hS : va_S (xA base) s.heap s.heap [] := va_S.rf
  have hl := lv_entry ([.ref p1, .ref p2, .int p3, .int p4, .int p5]) (n := 22) (Nat.le_of_ble_eq_true rfl)
  rw [lg_entry_eq]
  generalize (lg_sl ([.ref p1, .ref p2, .int p3, .int p4, .int p5]) ++ List.replicate (22 - (lg_sl ([.ref p1, .ref p2, .int p3, .int p4, .int p5])).length) Slot.unset).toArray = ls at hl ⊢
  have hl : lv_has ls 22 [(0, .ref p1), (1, .ref p2), (2, .int p3), (3, .int p4), (4, .int p5)] := hl
  unfold wp_L_isRollup at h
  refine lv_aload_n hx hb dL_isRollup_0 rfl (lv_at hl 0 rfl) ?_
  refine lv_iload_n hx hb dL_isRollup_1 rfl (lv_at hl 2 rfl) ?_
  refine lv_iload_n hx hb dL_isRollup_2 rfl (lv_at hl 3 rfl) ?_
  refine lv_iload hx hb dL_isRollup_3 (lv_at hl 4 rfl) ?_
  obtain ⟨g1, h⟩ := h
  refine xc_i (va_runV (As := [.int p3, .int p4, .int p5]) (rest := []) ⟨hx, hb, hml, hown, hts⟩ (mtq_X5_count l G base h) (cwV 3 hts gL_isRollup_X5_count rfl rfl rfl (by decide +kernel) ⟨Nat.le_of_ble_eq_true rfl, Nat.le_of_ble_eq_true rfl⟩) (xp_V hbase hh hK hX hS (ci := 5) g1 (by decide) rfl) rfl rfl hl.1 rfl (lv_room (Nat.le_of_ble_eq_true rfl)) dL_isRollup_5 ⟨Nat.le_of_ble_eq_true rfl, Nat.le_of_ble_eq_true rfl⟩) hS (fun r2 m3 H locs h hh hS => ?_)
  refine lv_istore (lv' := [(5, .int r2), (0, .ref p1), (1, .ref p2), (2, .int p3), (3, .int p4), (4, .int p5)]) hx hb dL_isRollup_8 hl (by decide) rfl (fun ls hl => ?_)
  refine lv_aload_n hx hb dL_isRollup_10 rfl (lv_at hl 1 rfl) ?_
  refine lv_iload_n hx hb dL_isRollup_11 rfl (lv_at hl 3 rfl) ?_
  refine lv_iload_n hx hb dL_isRollup_12 rfl (lv_at hl 4 rfl) ?_
  refine lv_iload hx hb dL_isRollup_13 (lv_at hl 5 rfl) ?_
  obtain ⟨g4, h⟩ := h
  refine xc_l (va_runV (As := [.int p3, .int p4, .int p5]) (rest := []) ⟨hx, hb, hml, hown, hts⟩ (mtq_X5_sum l G base h) (cwV 3 hts gL_isRollup_X5_sum rfl rfl rfl (by decide +kernel) ⟨Nat.le_of_ble_eq_true rfl, Nat.le_of_ble_eq_true rfl⟩) (xp_V hbase hh hK hX hS (ci := 5) g4 (by decide) rfl) rfl rfl hl.1 rfl (lv_room (Nat.le_of_ble_eq_true rfl)) dL_isRollup_15 ⟨Nat.le_of_ble_eq_true rfl, Nat.le_of_ble_eq_true rfl⟩) hS (fun r5 m6 H locs h hh hS => ?_)
  refine lv_lstore (lv' := [(6, .long r5), (5, .int r2), (0, .ref p1), (1, .ref p2), (2, .int p3), (3, .int p4), (4, .int p5)]) hx hb dL_isRollup_18 hl (by decide) rfl (fun ls hl => ?_)
  refine lv_aload_n hx hb dL_isRollup_20 rfl (lv_at hl 2 rfl) ?_
  refine lv_iload_n hx hb dL_isRollup_21 rfl (lv_at hl 4 rfl) ?_
  refine lv_iload_n hx hb dL_isRollup_22 rfl (lv_at hl 5 rfl) ?_
  refine lv_iload hx hb dL_isRollup_23 (lv_at hl 6 rfl) ?_
  obtain ⟨g7, h⟩ := h
  refine xc_i (va_runV (As := [.int p3, .int p4, .int p5]) (rest := []) ⟨hx, hb, hml, hown, hts⟩ (mtq_X5_least l G base h) (cwV 3 hts gL_isRollup_X5_least rfl rfl rfl (by decide +kernel) ⟨Nat.le_of_ble_eq_true rfl, Nat.le_of_ble_eq_true rfl⟩) (xp_V hbase hh hK hX hS (ci := 5) g7 (by decide) rfl) rfl rfl hl.1 rfl (lv_room (Nat.le_of_ble_eq_true rfl)) dL_isRollup_25 ⟨Nat.le_of_ble_eq_true rfl, Nat.le_of_ble_eq_true rfl⟩) hS (fun r8 m9 H locs h hh hS => ?_)
  refine lv_istore (lv' := [(8, .int r8), (6, .long r5), (5, .int r2), (0, .ref p1), (1, .ref p2), (2, .int p3), (3, .int p4), (4, .int p5)]) hx hb dL_isRollup_28 hl (by decide) rfl (fun ls hl => ?_)
  refine lv_aload_n hx hb dL_isRollup_30 rfl (lv_at hl 3 rfl) ?_
  refine lv_iload_n hx hb dL_isRollup_31 rfl (lv_at hl 5 rfl) ?_
  refine lv_iload_n hx hb dL_isRollup_32 rfl (lv_at hl 6 rfl) ?_
  refine lv_iload hx hb dL_isRollup_33 (lv_at hl 7 rfl) ?_
  obtain ⟨g10, h⟩ := h
  refine xc_i (va_runV (As := [.int p3, .int p4, .int p5]) (rest := []) ⟨hx, hb, hml, hown, hts⟩ (mtq_X5_greatest l G base h) (cwV 3 hts gL_isRollup_X5_greatest rfl rfl rfl (by decide +kernel) ⟨Nat.le_of_ble_eq_true rfl, Nat.le_of_ble_eq_true rfl⟩) (xp_V hbase hh hK hX hS (ci := 5) g10 (by decide) rfl) rfl rfl hl.1 rfl (lv_room (Nat.le_of_ble_eq_true rfl)) dL_isRollup_35 ⟨Nat.le_of_ble_eq_true rfl, Nat.le_of_ble_eq_true rfl⟩) hS (fun r11 m12 H locs h hh hS => ?_)
  refine lv_istore (lv' := [(9, .int r11), (8, .int r8), (6, .long r5), (5, .int r2), (0, .ref p1), (1, .ref p2), (2, .int p3), (3, .int p4), (4, .int p5)]) hx hb dL_isRollup_38 hl (by decide) rfl (fun ls hl => ?_)
  refine lv_aload_n hx hb dL_isRollup_40 rfl (lv_at hl 4 rfl) ?_
  refine lv_iload_n hx hb dL_isRollup_41 rfl (lv_at hl 6 rfl) ?_
  refine lv_iload_n hx hb dL_isRollup_42 rfl (lv_at hl 7 rfl) ?_
  refine lv_iload hx hb dL_isRollup_43 (lv_at hl 8 rfl) ?_
  obtain ⟨g13, h⟩ := h
  refine xc_i (va_runV (As := [.int p3, .int p4, .int p5]) (rest := []) ⟨hx, hb, hml, hown, hts⟩ (mtq_X5_first l G base h) (cwV 3 hts gL_isRollup_X5_first rfl rfl rfl (by decide +kernel) ⟨Nat.le_of_ble_eq_true rfl, Nat.le_of_ble_eq_true rfl⟩) (xp_V hbase hh hK hX hS (ci := 5) g13 (by decide) rfl) rfl rfl hl.1 rfl (lv_room (Nat.le_of_ble_eq_true rfl)) dL_isRollup_45 ⟨Nat.le_of_ble_eq_true rfl, Nat.le_of_ble_eq_true rfl⟩) hS (fun r14 m15 H locs h hh hS => ?_)
  refine lv_istore (lv' := [(10, .int r14), (9, .int r11), (8, .int r8), (6, .long r5), (5, .int r2), (0, .ref p1), (1, .ref p2), (2, .int p3), (3, .int p4), (4, .int p5)]) hx hb dL_isRollup_48 hl (by decide) rfl (fun ls hl => ?_)
  refine lv_aload_n hx hb dL_isRollup_50 rfl (lv_at hl 5 rfl) ?_
  refine lv_iload_n hx hb dL_isRollup_51 rfl (lv_at hl 7 rfl) ?_
  refine lv_iload_n hx hb dL_isRollup_52 rfl (lv_at hl 8 rfl) ?_
  refine lv_iload hx hb dL_isRollup_53 (lv_at hl 9 rfl) ?_
  obtain ⟨g16, h⟩ := h
  refine xc_i (va_runV (As := [.int p3, .int p4, .int p5]) (rest := []) ⟨hx, hb, hml, hown, hts⟩ (mtq_X5_last l G base h) (cwV 3 hts gL_isRollup_X5_last rfl rfl rfl (by decide +kernel) ⟨Nat.le_of_ble_eq_true rfl, Nat.le_of_ble_eq_true rfl⟩) (xp_V hbase hh hK hX hS (ci := 5) g16 (by decide) rfl) rfl rfl hl.1 rfl (lv_room (Nat.le_of_ble_eq_true rfl)) dL_isRollup_55 ⟨Nat.le_of_ble_eq_true rfl, Nat.le_of_ble_eq_true rfl⟩) hS (fun r17 m18 H locs h hh hS => ?_)
  refine lv_istore (lv' := [(11, .int r17), (10, .int r14), (9, .int r11), (8, .int r8), (6, .long r5), (5, .int r2), (0, .ref p1), (1, .ref p2), (2, .int p3), (3, .int p4), (4, .int p5)]) hx hb dL_isRollup_58 hl (by decide) rfl (fun ls hl => ?_)
  refine lv_iload hx hb dL_isRollup_60 (lv_at hl 5 rfl) ?_
  refine lv_iconst (v := 1) hx hb dL_isRollup_62 (by decide) ?_
  refine lv_icmp_lt (tgt := 165) hx hb dL_isRollup_63 (by decide) (fun c19 => ?_) (fun c19 => ?_)
  · replace h := h.1 c19
    exact bk_L_isRollup_165 C0 hl9  _ _ _ _ _ _ _ _ _ _ _ _ _ _ _ h hh hS (lv_sub hl [6, 7, 8, 9, 10, 5, 4, 3, 2, 1, 0] rfl)
  · replace h := h.2 c19
    refine lv_iload hx hb dL_isRollup_66 (lv_at hl 3 rfl) ?_
    refine lv_iload hx hb dL_isRollup_68 (lv_at hl 1 rfl) ?_
    refine lv_icmp_gt (tgt := 165) hx hb dL_isRollup_70 (by decide) (fun c82 => ?_) (fun c82 => ?_)
    · replace h := h.1 c82
      exact bk_L_isRollup_165 C0 hl9  _ _ _ _ _ _ _ _ _ _ _ _ _ _ _ h hh hS (lv_sub hl [6, 7, 8, 9, 10, 5, 4, 3, 2, 1, 0] rfl)
    · replace h := h.2 c82
      refine lv_iload hx hb dL_isRollup_73 (lv_at hl 1 rfl) ?_
      refine lv_iload hx hb dL_isRollup_75 (lv_at hl 2 rfl) ?_
      refine lv_icmp_gt (tgt := 165) hx hb dL_isRollup_77 (by decide) (fun c83 => ?_) (fun c83 => ?_)
      · replace h := h.1 c83
        exact bk_L_isRollup_165 C0 hl9  _ _ _ _ _ _ _ _ _ _ _ _ _ _ _ h hh hS (lv_sub hl [6, 7, 8, 9, 10, 5, 4, 3, 2, 1, 0] rfl)
      · replace h := h.2 c83
        refine lv_iload hx hb dL_isRollup_80 (lv_at hl 3 rfl) ?_
        refine lv_iload hx hb dL_isRollup_82 (lv_at hl 0 rfl) ?_
        refine lv_icmp_gt (tgt := 165) hx hb dL_isRollup_84 (by decide) (fun c84 => ?_) (fun c84 => ?_)
        · replace h := h.1 c84
          exact bk_L_isRollup_165 C0 hl9  _ _ _ _ _ _ _ _ _ _ _ _ _ _ _ h hh hS (lv_sub hl [6, 7, 8, 9, 10, 5, 4, 3, 2, 1, 0] rfl)
        · replace h := h.2 c84
          refine lv_iload hx hb dL_isRollup_87 (lv_at hl 0 rfl) ?_
          refine lv_iload hx hb dL_isRollup_89 (lv_at hl 2 rfl) ?_
          refine lv_icmp_gt (tgt := 165) hx hb dL_isRollup_91 (by decide) (fun c85 => ?_) (fun c85 => ?_)
          · replace h := h.1 c85
            exact bk_L_isRollup_165 C0 hl9  _ _ _ _ _ _ _ _ _ _ _ _ _ _ _ h hh hS (lv_sub hl [6, 7, 8, 9, 10, 5, 4, 3, 2, 1, 0] rfl)
          · replace h := h.2 c85
            refine lv_iload hx hb dL_isRollup_94 (lv_at hl 5 rfl) ?_
            refine lv_i2l hx hb dL_isRollup_96 rfl ?_
            refine lv_iload hx hb dL_isRollup_97 (lv_at hl 3 rfl) ?_
            refine lv_i2l hx hb dL_isRollup_99 rfl ?_
            refine lv_lmul hx hb dL_isRollup_100 ?_
            refine lv_lload hx hb dL_isRollup_101 (lv_at hl 4 rfl) ?_
            refine W.lcmp hx hb dL_isRollup_103 ?_
            refine lv_if_gt (tgt := 165) hx hb dL_isRollup_104 (by decide) (fun c86 => ?_) (fun c86 => ?_)
            · replace h := h.1 c86
              exact bk_L_isRollup_165 C0 hl9  _ _ _ _ _ _ _ _ _ _ _ _ _ _ _ h hh hS (lv_sub hl [6, 7, 8, 9, 10, 5, 4, 3, 2, 1, 0] rfl)
            · replace h := h.2 c86
              refine lv_lload hx hb dL_isRollup_107 (lv_at hl 4 rfl) ?_
              refine lv_iload hx hb dL_isRollup_109 (lv_at hl 5 rfl) ?_
              refine lv_i2l hx hb dL_isRollup_111 rfl ?_
              refine lv_iload hx hb dL_isRollup_112 (lv_at hl 2 rfl) ?_
              refine lv_i2l hx hb dL_isRollup_114 rfl ?_
              refine lv_lmul hx hb dL_isRollup_115 ?_
              refine W.lcmp hx hb dL_isRollup_116 ?_
              refine lv_if_gt (tgt := 165) hx hb dL_isRollup_117 (by decide) (fun c87 => ?_) (fun c87 => ?_)
              · replace h := h.1 c87
                exact bk_L_isRollup_165 C0 hl9  _ _ _ _ _ _ _ _ _ _ _ _ _ _ _ h hh hS (lv_sub hl [6, 7, 8, 9, 10, 5, 4, 3, 2, 1, 0] rfl)
              · replace h := h.2 c87
                refine lv_iload hx hb dL_isRollup_120 (lv_at hl 5 rfl) ?_
                refine lv_iconst (v := 1) hx hb dL_isRollup_122 (by decide) ?_
                refine lv_icmp_gt (tgt := 142) hx hb dL_isRollup_123 (by decide) (fun c88 => ?_) (fun c88 => ?_)
                · replace h := h.1 c88
                  exact bk_L_isRollup_142 C0 hl9  _ _ _ _ _ _ _ _ _ _ _ _ _ _ _ h hh hS (lv_sub hl [6, 7, 8, 9, 10, 5, 4, 3, 2, 1, 0] rfl)
                · replace h := h.2 c88
                  refine lv_iload hx hb dL_isRollup_126 (lv_at hl 1 rfl) ?_
                  refine lv_iload hx hb dL_isRollup_128 (lv_at hl 0 rfl) ?_
                  refine lv_icmp_ne (tgt := 165) hx hb dL_isRollup_130 (by decide) (fun c94 => ?_) (fun c94 => ?_)
                  · replace h := h.1 c94
                    exact bk_L_isRollup_165 C0 hl9  _ _ _ _ _ _ _ _ _ _ _ _ _ _ _ h hh hS (lv_sub hl [6, 7, 8, 9, 10, 5, 4, 3, 2, 1, 0] rfl)
                  · replace h := h.2 c94
                    refine lv_lload hx hb dL_isRollup_133 (lv_at hl 4 rfl) ?_
                    refine lv_iload hx hb dL_isRollup_135 (lv_at hl 1 rfl) ?_
                    refine lv_i2l hx hb dL_isRollup_137 rfl ?_
                    refine W.lcmp hx hb dL_isRollup_138 ?_
                    refine lv_if_ne (tgt := 165) hx hb dL_isRollup_139 (by decide) (fun c95 => ?_) (fun c95 => ?_)
                    · replace h := h.1 c95
                      exact bk_L_isRollup_165 C0 hl9  _ _ _ _ _ _ _ _ _ _ _ _ _ _ _ h hh hS (lv_sub hl [6, 7, 8, 9, 10, 5, 4, 3, 2, 1, 0] rfl)
                    · replace h := h.2 c95
                      exact bk_L_isRollup_142 C0 hl9  _ _ _ _ _ _ _ _ _ _ _ _ _ _ _ h hh hS (lv_sub hl [6, 7, 8, 9, 10, 5, 4, 3, 2, 1, 0] rfl)

set_option maxHeartbeats 4000000 in
set_option maxRecDepth 100000 in
theorem mt_L_valueAt (l : Launch) (hl9 : l.stackTraces = false) (G : GG) (base : Nat) {p1 : Nat} {p2 : Int32} {p3 : Int32} {m0 : MM} {Q : Int32 → MM → Prop} (h : wp_L_valueAt p1 p2 p3 m0 Q) : vx_Met l yL_valueAt wsL_valueAt ({ frames := 8, cells := 2, slots := 12, locals := 141 }) (va_Pc [.ref p1, .int p2, .int p3] (SP G base m0)) (va_Qi Q (HB G base) (xA base)) (xX G base (fun _ _ => False)) 2 12 (xA base) := by
  refine vx_ofWH (cc := cL_valueAt) (maxL := 4) (ret := (some .int)) (hh := [(0, 6, 7, 25)]) (by decide) rfl ?_
  intro p e s m args below meth c s₁ B hml hv
  obtain ⟨rfl, hbase, hh, hK, hX⟩ := hv
  have C0 : BC p s m _ meth c G base RL cL_valueAt 4 (some .int) wsL_valueAt := ⟨B.exec, B.bytes, B.returns, hml, findClass_of_methodNamed B.named, atoms_spec (ws := wsL_valueAt) B.pre, B.notSynchronized, hK, hbase, hX⟩
  obtain ⟨hx, hb, hr, -, hown, hts, hlocks, -, -, -⟩ := id C0
  have hS : va_S (xA base) s.heap s.heap [] := va_S.rf
  have hl := lv_entry ([.ref p1, .int p2, .int p3]) (n := 4) (Nat.le_of_ble_eq_true rfl)
  rw [lg_entry_eq]
  generalize (lg_sl ([.ref p1, .int p2, .int p3]) ++ List.replicate (4 - (lg_sl ([.ref p1, .int p2, .int p3])).length) Slot.unset).toArray = ls at hl ⊢
  have hl : lv_has ls 4 [(0, .ref p1), (1, .int p2), (2, .int p3)] := hl
  have htab : c.exceptionTable.toList = tableOf [(0, 6, 7, 25)] := vx_table (x := yL_law) B (hts _ List.mem_cons_self)
  unfold wp_L_valueAt at h
  have q1 : (Cond.classLink RL 25 "java/lang/IllegalStateException").before _ s = true := hts _ (List.mem_cons_of_mem _ (List.mem_append_left _ (List.mem_append_left _ (List.mem_append_left _ (List.mem_append_left _ (List.mem_append_left _ (List.mem_append_left _ (List.mem_of_getElem? (i := 0) rfl))))))))
  have q2 : (Cond.constant RL 31 (-2000000)).before _ s = true := hts _ (List.mem_cons_of_mem _ (List.mem_append_left _ (List.mem_append_left _ (List.mem_append_left _ (List.mem_append_left _ (List.mem_append_left _ (List.mem_append_left _ (List.mem_of_getElem? (i := 1) rfl))))))))
  refine lv_aload_n hx hb dL_valueAt_0 rfl (lv_at hl 0 rfl) ?_
  refine lv_iload_n hx hb dL_valueAt_1 rfl (lv_at hl 1 rfl) ?_
  refine lv_iload_n hx hb dL_valueAt_2 rfl (lv_at hl 2 rfl) ?_
  obtain ⟨g1, h⟩ := h
  refine xt_i (vx_runV (As := [.int p2, .int p3]) (rest := []) ⟨hx, hb, hml, hown, hts⟩ (mt_X5_valueAt l hl9 G base h) (cwV 2 hts gL_valueAt_X5_valueAt rfl rfl rfl (by decide +kernel) ⟨Nat.le_of_ble_eq_true rfl, Nat.le_of_ble_eq_true rfl⟩) (xp_V hbase hh hK hX hS (ci := 5) g1 (by decide) rfl) rfl rfl hl.1 rfl (lv_room (Nat.le_of_ble_eq_true rfl)) dL_valueAt_3 ⟨Nat.le_of_ble_eq_true rfl, Nat.le_of_ble_eq_true rfl⟩) hS (fun k9 m9 H locs q9 ce h hh hS hc9 hv9 hcl9 => ?_) (fun r2 m3 H locs h hh hS => ?_)
  · by_cases z0 : k9 = 0
    · subst z0
      have h := h.1 rfl
      exact h.elim
    · by_cases z1 : k9 = 1
      · subst z1
        have h := h.2.1 rfl
        exact h.elim
      · rw [xN_2 z0 z1] at hcl9
        have h := h.2.2 z0 z1
        refine vx_catch (name := xN 2) hown [] (⟨0, 6, 7, 25⟩ : ExceptionTableEntry) [] (htab.trans rfl) (fun z hz => absurd hz List.not_mem_nil) rfl (by decide) q1 (va_Nw.use rfl (hX.2.2.1 2)) hc9 hv9 hcl9 ?_
        refine W.eq (g2 := F0 m 7 ls [.ref q9]) rfl ?_
        refine lv_astore_n (lv' := [(3, .ref q9), (0, .ref p1), (1, .int p2), (2, .int p3)]) hx hb dL_valueAt_7 rfl hl (by decide) rfl (fun ls hl => ?_)
        refine lv_ldc hx hb hown q2 dL_valueAt_8 ?_
        exact vx_ret (xe_i hx hb hr hlocks hbase hh hK hX hS h (Nat.le_of_ble_eq_true rfl) (Nat.le_of_ble_eq_true rfl) dL_valueAt_10)
  exact vx_ret (xe_i hx hb hr hlocks hbase hh hK hX hS h (Nat.le_of_ble_eq_true rfl) (Nat.le_of_ble_eq_true rfl) dL_valueAt_6)

set_option maxHeartbeats 4000000 in
set_option maxRecDepth 100000 in
theorem mt_L_put (l : Launch) (hl9 : l.stackTraces = false) (G : GG) (base : Nat) {p1 : Nat} {p2 : Int32} {p3 : Int32} {p4 : Int32} {m0 : MM} {Q : Int32 → MM → Prop} {kc ks : Nat} (h : wp_L_put p1 p2 p3 p4 m0 Q kc ks) : vx_Met l yL_put wsL_put ({ frames := 8, cells := kc, slots := ks, locals := 211 }) (va_Pc [.ref p1, .int p2, .int p3, .int p4] (SP G base m0)) (va_Qi Q (HB G base) (xA base)) (xX G base (fun _ _ => False)) kc ks (xA base) := by
  refine vx_ofWH (cc := cL_put) (maxL := 5) (ret := (some .int)) (hh := [(0, 15, 16, 23), (0, 15, 20, 25)]) (by decide) rfl ?_
  intro p e s m args below meth c s₁ B hml hv
  obtain ⟨rfl, hbase, hh, hK, hX⟩ := hv
  have C0 : BC p s m _ meth c G base RL cL_put 5 (some .int) wsL_put := ⟨B.exec, B.bytes, B.returns, hml, findClass_of_methodNamed B.named, atoms_spec (ws := wsL_put) B.pre, B.notSynchronized, hK, hbase, hX⟩
  obtain ⟨hx, hb, hr, -, hown, hts, hlocks, -, -, -⟩ := id C0
  have hS : va_S (xA base) s.heap s.heap [] := va_S.rf
  have hl := lv_entry ([.ref p1, .int p2, .int p3, .int p4]) (n := 5) (Nat.le_of_ble_eq_true rfl)
  rw [lg_entry_eq]
  generalize (lg_sl ([.ref p1, .int p2, .int p3, .int p4]) ++ List.replicate (5 - (lg_sl ([.ref p1, .int p2, .int p3, .int p4])).length) Slot.unset).toArray = ls at hl ⊢
  have hl : lv_has ls 5 [(0, .ref p1), (1, .int p2), (2, .int p3), (3, .int p4)] := hl
  have htab : c.exceptionTable.toList = tableOf [(0, 15, 16, 23), (0, 15, 20, 25)] := vx_table (x := yL_law) B (hts _ List.mem_cons_self)
  unfold wp_L_put at h
  have hcc : 0 + kc ≤ kc := by omega
  have hss : 0 + ks ≤ ks := by omega
  have q1 : (Cond.classLink RL 23 "java/lang/IllegalArgumentException").before _ s = true := hts _ (List.mem_cons_of_mem _ (List.mem_append_left _ (List.mem_append_left _ (List.mem_append_left _ (List.mem_append_left _ (List.mem_append_left _ (List.mem_append_left _ (List.mem_append_left _ (List.mem_append_left _ (List.mem_append_left _ (List.mem_of_getElem? (i := 0) rfl)))))))))))
  have q2 : (Cond.classLink RL 25 "java/lang/IllegalStateException").before _ s = true := hts _ (List.mem_cons_of_mem _ (List.mem_append_left _ (List.mem_append_left _ (List.mem_append_left _ (List.mem_append_left _ (List.mem_append_left _ (List.mem_append_left _ (List.mem_append_left _ (List.mem_append_left _ (List.mem_append_left _ (List.mem_of_getElem? (i := 1) rfl)))))))))))
  refine lv_aload_n hx hb dL_put_0 rfl (lv_at hl 0 rfl) ?_
  refine lv_iload_n hx hb dL_put_1 rfl (lv_at hl 1 rfl) ?_
  refine lv_iload_n hx hb dL_put_2 rfl (lv_at hl 2 rfl) ?_
  refine lv_iload_n hx hb dL_put_3 rfl (lv_at hl 3 rfl) ?_
  obtain ⟨c1, s2, g3, g4, h⟩ := h
  obtain ⟨g5, h⟩ := h
  refine xt_i (vx_runV (As := [.int p2, .int p3, .int p4]) (rest := []) ⟨hx, hb, hml, hown, hts⟩ (mt_X5_put l hl9 G base h) (cwV 3 hts gL_put_X5_put rfl rfl rfl (by decide +kernel) ⟨Nat.le_of_ble_eq_true rfl, Nat.le_of_ble_eq_true rfl⟩) (xp_V hbase hh hK hX hS (ci := 5) g5 (by decide) rfl) rfl rfl hl.1 rfl (lv_room (Nat.le_of_ble_eq_true rfl)) dL_put_4 ⟨by show _ ≤ kc; omega, by show _ ≤ ks; omega⟩) hS (fun k9 m9 H locs q9 ce h hh hS hc9 hv9 hcl9 => ?_) (fun r6 m7 H locs h hh hS => ?_)
  · by_cases z0 : k9 = 0
    · subst z0
      have h := h.1 rfl
      exact h.elim
    · by_cases z1 : k9 = 1
      · subst z1
        have h := h.2.1 rfl
        refine vx_catch (name := xN 1) hown [] (⟨0, 15, 16, 23⟩ : ExceptionTableEntry) [(⟨0, 15, 20, 25⟩ : ExceptionTableEntry)] (htab.trans rfl) (fun z hz => absurd hz List.not_mem_nil) rfl (by decide) q1 (va_Nw.use rfl (hX.2.2.1 1)) hc9 hv9 hcl9 ?_
        refine W.eq (g2 := F0 m 16 ls [.ref q9]) rfl ?_
        refine lv_astore (lv' := [(4, .ref q9), (0, .ref p1), (1, .int p2), (2, .int p3), (3, .int p4)]) hx hb dL_put_16 hl (by decide) rfl (fun ls hl => ?_)
        refine lv_iconst (v := -1) hx hb dL_put_18 (by decide) ?_
        exact vx_ret (xe_i hx hb hr hlocks hbase hh hK hX hS h (by omega) (by omega) dL_put_19)
      · rw [xN_2 z0 z1] at hcl9
        have h := h.2.2 z0 z1
        refine vx_catch (name := xN 2) hown [(⟨0, 15, 16, 23⟩ : ExceptionTableEntry)] (⟨0, 15, 20, 25⟩ : ExceptionTableEntry) [] (htab.trans rfl) (fun z hz => by
          have hz : z ∈ [(⟨0, 15, 16, 23⟩ : ExceptionTableEntry)] := hz
          rcases List.mem_cons.mp hz with rfl | hz
          · exact Or.inr ⟨by decide, xN 1, q1, hX.2.2.2.1 2 1 (by decide) (by decide)⟩
          · exact absurd hz List.not_mem_nil) rfl (by decide) q2 (va_Nw.use rfl (hX.2.2.1 2)) hc9 hv9 hcl9 ?_
        refine W.eq (g2 := F0 m 20 ls [.ref q9]) rfl ?_
        refine lv_astore (lv' := [(4, .ref q9), (0, .ref p1), (1, .int p2), (2, .int p3), (3, .int p4)]) hx hb dL_put_20 hl (by decide) rfl (fun ls hl => ?_)
        refine lv_bipush (v := -2) hx hb dL_put_22 (by decide) ?_
        exact vx_ret (xe_i hx hb hr hlocks hbase hh hK hX hS h (by omega) (by omega) dL_put_24)
  obtain ⟨kc8, ekc8⟩ : ∃ z : Nat, z = kc - c1 := ⟨_, rfl⟩
  obtain ⟨ks9, eks9⟩ : ∃ z : Nat, z = ks - s2 := ⟨_, rfl⟩
  replace h := h kc8 ks9 ekc8 eks9
  obtain ⟨cl10, ecl10⟩ : ∃ z : Nat, z = 0 + c1 := ⟨_, rfl⟩
  obtain ⟨sl11, esl11⟩ : ∃ z : Nat, z = 0 + s2 := ⟨_, rfl⟩
  refine W_cs ecl10 esl11 ?_
  have hcc : cl10 + kc8 ≤ kc := by omega
  have hss : sl11 + ks9 ≤ ks := by omega
  refine lv_if_eq (tgt := 14) hx hb dL_put_7 (by decide) (fun c12 => ?_) (fun c12 => ?_)
  · replace h := h.1 c12
    refine lv_iconst (v := 0) hx hb dL_put_14 (by decide) ?_
    exact vx_ret (xe_i hx hb hr hlocks hbase hh hK hX hS h (by omega) (by omega) dL_put_15)
  · replace h := h.2 c12
    refine lv_iconst (v := 1) hx hb dL_put_10 (by decide) ?_
    refine lv_goto (tgt := 15) hx hb dL_put_11 (by decide) ?_
    exact vx_ret (xe_i hx hb hr hlocks hbase hh hK hX hS h (by omega) (by omega) dL_put_15)

set_option maxHeartbeats 4000000 in
set_option maxRecDepth 100000 in
theorem bk_L_writes_96 {p : Program} {l : Launch} {e : Env} {s : State} {m : MethodId} {args : Array Value} {below : List Frame} {meth : Method} {c : Code} {G : GG} {base : Nat} {MC MS : Nat} (C0 : BC p s m args meth c G base RL cL_writes 12 (some .boolean) wsL_writes) (hl9 : l.stackTraces = false) {Q : Int32 → MM → Prop} : ∀ (l0 : Nat) (l2 : Int32) (l3 : Int32) (l5 : Int32) (l6 : Int32) (l9 : Int32) (m0 : MM) (H : Heap) (locs : List Loc) (ls : Array Slot) (cl9 sl9 kc ks : Nat) (hcc : cl9 + kc ≤ MC) (hss : sl9 + ks ≤ MS), wp_L_writes_96 Q l0 l2 l3 l5 l6 l9 m0 kc ks → hp G (xA base) m0 H → va_S (xA base) s.heap H locs → lv_has ls 12 [(0, .ref l0), (2, .int l2), (3, .int l3), (5, .int l5), (6, .int l6), (9, .int l9)] → W p l e ({ frames := 11, cells := MC, slots := MS, locals := 235 } : Room) s m args below meth c H locs cl9 sl9 (MQ below (va_Qi Q (HB G base) (xA base)) args s MC MS (xA base)) (F0 m 96 ls []) := by
  obtain ⟨hx, hb, hr, hml, hown, hts, hlocks, hK, hbase, hX⟩ := id C0
  intro l0 l2 l3 l5 l6 l9 m0 H locs ls cl9 sl9 kc ks hcc hss h hh hS hl
  unfold wp_L_writes_96 at h
  refine lv_iload hx hb dL_writes_96 (lv_at hl 5 rfl) ?_
  refine lv_bipush (v := -2) hx hb dL_writes_98 (by decide) ?_
  refine lv_icmp_ne (tgt := 129) hx hb dL_writes_100 (by decide) (fun c32 => ?_) (fun c32 => ?_)
  · replace h := h.1 c32
    refine lv_iconst (v := 0) hx hb dL_writes_129 (by decide) ?_
    exact (xe_z hx hb hr hlocks hbase hh hK hX hS (Or.inl rfl) h (by omega) (by omega) dL_writes_130)
  · replace h := h.2 c32
    refine lv_aload_n hx hb dL_writes_103 rfl (lv_at hl 0 rfl) ?_
    refine lv_iload_n hx hb dL_writes_104 rfl (lv_at hl 1 rfl) ?_
    refine lv_iload_n hx hb dL_writes_105 rfl (lv_at hl 2 rfl) ?_
    obtain ⟨g33, g34, h⟩ := h
    refine xt_i (vx_runSX (As := [.ref l0, .int l2, .int l3]) (rest := []) ⟨hx, hb, hml, hown, hts⟩ (mt_L_valueAt l hl9 G base h) (vx_cwSW 3 hts gL_writes_L_valueAt rfl rfl rfl (by decide +kernel) ⟨Nat.le_of_ble_eq_true rfl, Nat.le_of_ble_eq_true rfl⟩) (xp_S hbase hh hK hX hS) rfl rfl hl.1 rfl (lv_room (Nat.le_of_ble_eq_true rfl)) dL_writes_106 ⟨by show _ ≤ MC; omega, by show _ ≤ MS; omega⟩) hS (fun k9 m9 H locs q9 ce h hh hS hc9 hv9 hcl9 => h.elim) (fun r35 m36 H locs h hh hS => ?_)
    obtain ⟨kc37, ekc37⟩ : ∃ z : Nat, z = kc - 2 := ⟨_, rfl⟩
    obtain ⟨ks38, eks38⟩ : ∃ z : Nat, z = ks - 12 := ⟨_, rfl⟩
    replace h := h kc37 ks38 ekc37 eks38
    obtain ⟨cl39, ecl39⟩ : ∃ z : Nat, z = cl9 + 2 := ⟨_, rfl⟩
    obtain ⟨sl40, esl40⟩ : ∃ z : Nat, z = sl9 + 12 := ⟨_, rfl⟩
    refine W_cs ecl39 esl40 ?_
    have hcc : cl39 + kc37 ≤ MC := by omega
    have hss : sl40 + ks38 ≤ MS := by omega
    refine lv_iload hx hb dL_writes_109 (lv_at hl 3 rfl) ?_
    refine lv_icmp_ne (tgt := 129) hx hb dL_writes_111 (by decide) (fun c41 => ?_) (fun c41 => ?_)
    · replace h := h.1 c41
      refine lv_iconst (v := 0) hx hb dL_writes_129 (by decide) ?_
      exact (xe_z hx hb hr hlocks hbase hh hK hX hS (Or.inl rfl) h (by omega) (by omega) dL_writes_130)
    · replace h := h.2 c41
      refine lv_aload_n hx hb dL_writes_114 rfl (lv_at hl 0 rfl) ?_
      refine lv_iload_n hx hb dL_writes_115 rfl (lv_at hl 1 rfl) ?_
      refine lv_iconst (v := 0) hx hb dL_writes_116 (by decide) ?_
      obtain ⟨g42, h⟩ := h
      refine xc_i (va_runV (As := [.int l2, .int (0 : Int32)]) (rest := []) ⟨hx, hb, hml, hown, hts⟩ (mtq_X5_rows l G base h) (cwV 2 hts gL_writes_X5_rows rfl rfl rfl (by decide +kernel) ⟨Nat.le_of_ble_eq_true rfl, Nat.le_of_ble_eq_true rfl⟩) (xp_V hbase hh hK hX hS (ci := 5) g42 (by decide) rfl) rfl rfl hl.1 rfl (lv_room (Nat.le_of_ble_eq_true rfl)) dL_writes_117 ⟨by show _ ≤ MC; omega, by show _ ≤ MS; omega⟩) hS (fun r43 m44 H locs h hh hS => ?_)
      refine lv_iload hx hb dL_writes_120 (lv_at hl 4 rfl) ?_
      refine lv_icmp_ne (tgt := 129) hx hb dL_writes_122 (by decide) (fun c45 => ?_) (fun c45 => ?_)
      · replace h := h.1 c45
        refine lv_iconst (v := 0) hx hb dL_writes_129 (by decide) ?_
        exact (xe_z hx hb hr hlocks hbase hh hK hX hS (Or.inl rfl) h (by omega) (by omega) dL_writes_130)
      · replace h := h.2 c45
        refine lv_iconst (v := 1) hx hb dL_writes_125 (by decide) ?_
        refine lv_goto (tgt := 130) hx hb dL_writes_126 (by decide) ?_
        exact (xe_z hx hb hr hlocks hbase hh hK hX hS (Or.inr rfl) h (by omega) (by omega) dL_writes_130)

set_option maxHeartbeats 4000000 in
set_option maxRecDepth 100000 in
theorem bk_L_writes_185 {p : Program} {l : Launch} {e : Env} {s : State} {m : MethodId} {args : Array Value} {below : List Frame} {meth : Method} {c : Code} {G : GG} {base : Nat} {MC MS : Nat} (C0 : BC p s m args meth c G base RL cL_writes 12 (some .boolean) wsL_writes) (hl9 : l.stackTraces = false) {Q : Int32 → MM → Prop} : ∀ (n : Nat) (l0 : Nat) (l2 : Int32) (l3 : Int32) (l4 : Int32) (l10 : Int32) (l11 : Int32) (m0 : MM) (H : Heap) (locs : List Loc) (ls : Array Slot) (cl9 sl9 kc ks : Nat) (hcc : cl9 + kc ≤ MC) (hss : sl9 + ks ≤ MS), wp_L_writes_185 Q n l0 l2 l3 l4 l10 l11 m0 kc ks → hp G (xA base) m0 H → va_S (xA base) s.heap H locs → lv_has ls 12 [(0, .ref l0), (2, .int l2), (3, .int l3), (4, .int l4), (10, .int l10), (11, .int l11)] → W p l e ({ frames := 11, cells := MC, slots := MS, locals := 235 } : Room) s m args below meth c H locs cl9 sl9 (MQ below (va_Qi Q (HB G base) (xA base)) args s MC MS (xA base)) (F0 m 185 ls []) := by
  obtain ⟨hx, hb, hr, hml, hown, hts, hlocks, hK, hbase, hX⟩ := id C0
  intro n
  induction n with
  | zero =>
    intro l0 l2 l3 l4 l10 l11 m0 H locs ls cl9 sl9 kc ks hcc hss h
    unfold wp_L_writes_185 at h
    exact h.elim
  | succ n ih =>
    intro l0 l2 l3 l4 l10 l11 m0 H locs ls cl9 sl9 kc ks hcc hss h hh hS hl
    unfold wp_L_writes_185 at h
    refine lv_iload hx hb dL_writes_185 (lv_at hl 5 rfl) ?_
    refine lv_iconst (v := 4) hx hb dL_writes_187 (by decide) ?_
    refine lv_icmp_ge (tgt := 235) hx hb dL_writes_188 (by decide) (fun c51 => ?_) (fun c51 => ?_)
    · replace h := h.1 c51
      refine lv_iload hx hb dL_writes_235 (lv_at hl 4 rfl) ?_
      exact (xe_z hx hb hr hlocks hbase hh hK hX hS h.1 h.2 (by omega) (by omega) dL_writes_237)
    · replace h := h.2 c51
      refine lv_iload hx hb dL_writes_191 (lv_at hl 4 rfl) ?_
      refine lv_if_eq (tgt := 226) hx hb dL_writes_193 (by decide) (fun c52 => ?_) (fun c52 => ?_)
      · replace h := h.1 c52
        refine lv_iconst (v := 0) hx hb dL_writes_226 (by decide) ?_
        refine lv_topi (fun x53 ex53 => ?_)
        replace h := h x53 ex53
        refine lv_istore (lv' := [(10, .int x53), (0, .ref l0), (2, .int l2), (3, .int l3), (4, .int l4), (11, .int l11)]) hx hb dL_writes_227 hl (by decide) rfl (fun ls hl => ?_)
        obtain ⟨x54, ex54⟩ : ∃ y : Int32, y = l11 + 1 := ⟨_, rfl⟩
        replace h := h x54 ex54
        refine lv_iinc (v := x54) (lv' := [(11, .int x54), (10, .int x53), (0, .ref l0), (2, .int l2), (3, .int l3), (4, .int l4)]) hx hb dL_writes_229 hl (k := 5) rfl (by rw [ex54]; rfl) (by decide) rfl (fun ls hl => ?_)
        refine lv_goto (tgt := 185) hx hb dL_writes_232 (by decide) ?_
        exact ih _ _ _ _ _ _ _ _ _ _ cl9 sl9 kc ks hcc hss h hh hS (lv_sub hl [2, 3, 4, 5, 1, 0] rfl)
      · replace h := h.2 c52
        refine lv_aload_n hx hb dL_writes_196 rfl (lv_at hl 0 rfl) ?_
        refine lv_iload_n hx hb dL_writes_197 rfl (lv_at hl 1 rfl) ?_
        refine lv_iload hx hb dL_writes_198 (lv_at hl 5 rfl) ?_
        refine lv_iload_n hx hb dL_writes_200 rfl (lv_at hl 2 rfl) ?_
        obtain ⟨g55, h⟩ := h
        refine xc_i (va_runV (As := [.int l2, .int l11, .int l3]) (rest := []) ⟨hx, hb, hml, hown, hts⟩ (mtq_X5_least l G base h) (cwV 3 hts gL_writes_X5_least rfl rfl rfl (by decide +kernel) ⟨Nat.le_of_ble_eq_true rfl, Nat.le_of_ble_eq_true rfl⟩) (xp_V hbase hh hK hX hS (ci := 5) g55 (by decide) rfl) rfl rfl hl.1 rfl (lv_room (Nat.le_of_ble_eq_true rfl)) dL_writes_201 ⟨by show _ ≤ MC; omega, by show _ ≤ MS; omega⟩) hS (fun r56 m57 H locs h hh hS => ?_)
        refine lv_iload hx hb dL_writes_204 (lv_at hl 3 rfl) ?_
        refine lv_icmp_gt (tgt := 226) hx hb dL_writes_206 (by decide) (fun c58 => ?_) (fun c58 => ?_)
        · replace h := h.1 c58
          refine lv_iconst (v := 0) hx hb dL_writes_226 (by decide) ?_
          refine lv_topi (fun x59 ex59 => ?_)
          replace h := h x59 ex59
          refine lv_istore (lv' := [(10, .int x59), (0, .ref l0), (2, .int l2), (3, .int l3), (4, .int l4), (11, .int l11)]) hx hb dL_writes_227 hl (by decide) rfl (fun ls hl => ?_)
          obtain ⟨x60, ex60⟩ : ∃ y : Int32, y = l11 + 1 := ⟨_, rfl⟩
          replace h := h x60 ex60
          refine lv_iinc (v := x60) (lv' := [(11, .int x60), (10, .int x59), (0, .ref l0), (2, .int l2), (3, .int l3), (4, .int l4)]) hx hb dL_writes_229 hl (k := 5) rfl (by rw [ex60]; rfl) (by decide) rfl (fun ls hl => ?_)
          refine lv_goto (tgt := 185) hx hb dL_writes_232 (by decide) ?_
          exact ih _ _ _ _ _ _ _ _ _ _ cl9 sl9 kc ks hcc hss h hh hS (lv_sub hl [2, 3, 4, 5, 1, 0] rfl)
        · replace h := h.2 c58
          refine lv_iload hx hb dL_writes_209 (lv_at hl 3 rfl) ?_
          refine lv_aload_n hx hb dL_writes_211 rfl (lv_at hl 0 rfl) ?_
          refine lv_iload_n hx hb dL_writes_212 rfl (lv_at hl 1 rfl) ?_
          refine lv_iload hx hb dL_writes_213 (lv_at hl 5 rfl) ?_
          refine lv_iload_n hx hb dL_writes_215 rfl (lv_at hl 2 rfl) ?_
          obtain ⟨g61, h⟩ := h
          refine xc_i (va_runV (As := [.int l2, .int l11, .int l3]) (rest := [.int l4]) ⟨hx, hb, hml, hown, hts⟩ (mtq_X5_greatest l G base h) (cwV 3 hts gL_writes_X5_greatest rfl rfl rfl (by decide +kernel) ⟨Nat.le_of_ble_eq_true rfl, Nat.le_of_ble_eq_true rfl⟩) (xp_V hbase hh hK hX hS (ci := 5) g61 (by decide) rfl) rfl rfl hl.1 rfl (lv_room (Nat.le_of_ble_eq_true rfl)) dL_writes_216 ⟨by show _ ≤ MC; omega, by show _ ≤ MS; omega⟩) hS (fun r62 m63 H locs h hh hS => ?_)
          refine lv_icmp_gt (tgt := 226) hx hb dL_writes_219 (by decide) (fun c64 => ?_) (fun c64 => ?_)
          · replace h := h.1 c64
            refine lv_iconst (v := 0) hx hb dL_writes_226 (by decide) ?_
            refine lv_topi (fun x65 ex65 => ?_)
            replace h := h x65 ex65
            refine lv_istore (lv' := [(10, .int x65), (0, .ref l0), (2, .int l2), (3, .int l3), (4, .int l4), (11, .int l11)]) hx hb dL_writes_227 hl (by decide) rfl (fun ls hl => ?_)
            obtain ⟨x66, ex66⟩ : ∃ y : Int32, y = l11 + 1 := ⟨_, rfl⟩
            replace h := h x66 ex66
            refine lv_iinc (v := x66) (lv' := [(11, .int x66), (10, .int x65), (0, .ref l0), (2, .int l2), (3, .int l3), (4, .int l4)]) hx hb dL_writes_229 hl (k := 5) rfl (by rw [ex66]; rfl) (by decide) rfl (fun ls hl => ?_)
            refine lv_goto (tgt := 185) hx hb dL_writes_232 (by decide) ?_
            exact ih _ _ _ _ _ _ _ _ _ _ cl9 sl9 kc ks hcc hss h hh hS (lv_sub hl [2, 3, 4, 5, 1, 0] rfl)
          · replace h := h.2 c64
            refine lv_iconst (v := 1) hx hb dL_writes_222 (by decide) ?_
            refine lv_goto (tgt := 227) hx hb dL_writes_223 (by decide) ?_
            refine lv_topi (fun x67 ex67 => ?_)
            replace h := h x67 ex67
            refine lv_istore (lv' := [(10, .int x67), (0, .ref l0), (2, .int l2), (3, .int l3), (4, .int l4), (11, .int l11)]) hx hb dL_writes_227 hl (by decide) rfl (fun ls hl => ?_)
            obtain ⟨x68, ex68⟩ : ∃ y : Int32, y = l11 + 1 := ⟨_, rfl⟩
            replace h := h x68 ex68
            refine lv_iinc (v := x68) (lv' := [(11, .int x68), (10, .int x67), (0, .ref l0), (2, .int l2), (3, .int l3), (4, .int l4)]) hx hb dL_writes_229 hl (k := 5) rfl (by rw [ex68]; rfl) (by decide) rfl (fun ls hl => ?_)
            refine lv_goto (tgt := 185) hx hb dL_writes_232 (by decide) ?_
            exact ih _ _ _ _ _ _ _ _ _ _ cl9 sl9 kc ks hcc hss h hh hS (lv_sub hl [2, 3, 4, 5, 1, 0] rfl)

set_option maxHeartbeats 4000000 in
set_option maxRecDepth 100000 in
theorem bk_L_writes_145 {p : Program} {l : Launch} {e : Env} {s : State} {m : MethodId} {args : Array Value} {below : List Frame} {meth : Method} {c : Code} {G : GG} {base : Nat} {MC MS : Nat} (C0 : BC p s m args meth c G base RL cL_writes 12 (some .boolean) wsL_writes) (hl9 : l.stackTraces = false) {Q : Int32 → MM → Prop} : ∀ (l0 : Nat) (l2 : Int32) (l3 : Int32) (l4 : Int32) (l6 : Int32) (l9 : Int32) (s0 : Int32) (s1 : Int32) (m0 : MM) (H : Heap) (locs : List Loc) (ls : Array Slot) (cl9 sl9 kc ks : Nat) (hcc : cl9 + kc ≤ MC) (hss : sl9 + ks ≤ MS), wp_L_writes_145 Q l0 l2 l3 l4 l6 l9 s0 s1 m0 kc ks → hp G (xA base) m0 H → va_S (xA base) s.heap H locs → lv_has ls 12 [(0, .ref l0), (2, .int l2), (3, .int l3), (4, .int l4), (6, .int l6), (9, .int l9)] → W p l e ({ frames := 11, cells := MC, slots := MS, locals := 235 } : Room) s m args below meth c H locs cl9 sl9 (MQ below (va_Qi Q (HB G base) (xA base)) args s MC MS (xA base)) (F0 m 145 ls [.int s0, .int s1]) := by
  obtain ⟨hx, hb, hr, hml, hown, hts, hlocks, hK, hbase, hX⟩ := id C0
  intro l0 l2 l3 l4 l6 l9 s0 s1 m0 H locs ls cl9 sl9 kc ks hcc hss h hh hS hl
  unfold wp_L_writes_145 at h
  refine lv_icmp_ne (tgt := 179) hx hb dL_writes_145 (by decide) (fun c48 => ?_) (fun c48 => ?_)
  · replace h := h.1 c48
    refine lv_iconst (v := 0) hx hb dL_writes_179 (by decide) ?_
    refine lv_topi (fun x49 ex49 => ?_)
    replace h := h x49 ex49
    refine lv_istore (lv' := [(10, .int x49), (0, .ref l0), (2, .int l2), (3, .int l3), (4, .int l4), (6, .int l6), (9, .int l9)]) hx hb dL_writes_180 hl (by decide) rfl (fun ls hl => ?_)
    refine lv_iconst (v := 1) hx hb dL_writes_182 (by decide) ?_
    refine lv_topi (fun x50 ex50 => ?_)
    replace h := h x50 ex50
    refine lv_istore (lv' := [(11, .int x50), (10, .int x49), (0, .ref l0), (2, .int l2), (3, .int l3), (4, .int l4), (6, .int l6), (9, .int l9)]) hx hb dL_writes_183 hl (by decide) rfl (fun ls hl => ?_)
    obtain ⟨n9, h⟩ := h
    exact bk_L_writes_185 C0 hl9  n9 _ _ _ _ _ _ _ _ _ _ cl9 sl9 kc ks hcc hss h hh hS (lv_sub hl [2, 3, 4, 5, 1, 0] rfl)
  · replace h := h.2 c48
    refine lv_aload_n hx hb dL_writes_148 rfl (lv_at hl 0 rfl) ?_
    refine lv_iload_n hx hb dL_writes_149 rfl (lv_at hl 1 rfl) ?_
    refine lv_iload_n hx hb dL_writes_150 rfl (lv_at hl 2 rfl) ?_
    obtain ⟨g69, h⟩ := h
    refine xc_i (va_runV (As := [.int l2, .int l3]) (rest := []) ⟨hx, hb, hml, hown, hts⟩ (mtq_X5_valueAt l G base h) (cwV 2 hts gL_writes_X5_valueAt rfl rfl rfl (by decide +kernel) ⟨Nat.le_of_ble_eq_true rfl, Nat.le_of_ble_eq_true rfl⟩) (xp_V hbase hh hK hX hS (ci := 5) g69 (by decide) rfl) rfl rfl hl.1 rfl (lv_room (Nat.le_of_ble_eq_true rfl)) dL_writes_151 ⟨by show _ ≤ MC; omega, by show _ ≤ MS; omega⟩) hS (fun r70 m71 H locs h hh hS => ?_)
    refine lv_iload hx hb dL_writes_154 (lv_at hl 3 rfl) ?_
    refine lv_icmp_ne (tgt := 179) hx hb dL_writes_156 (by decide) (fun c72 => ?_) (fun c72 => ?_)
    · replace h := h.1 c72
      refine lv_iconst (v := 0) hx hb dL_writes_179 (by decide) ?_
      refine lv_topi (fun x73 ex73 => ?_)
      replace h := h x73 ex73
      refine lv_istore (lv' := [(10, .int x73), (0, .ref l0), (2, .int l2), (3, .int l3), (4, .int l4), (6, .int l6), (9, .int l9)]) hx hb dL_writes_180 hl (by decide) rfl (fun ls hl => ?_)
      refine lv_iconst (v := 1) hx hb dL_writes_182 (by decide) ?_
      refine lv_topi (fun x74 ex74 => ?_)
      replace h := h x74 ex74
      refine lv_istore (lv' := [(11, .int x74), (10, .int x73), (0, .ref l0), (2, .int l2), (3, .int l3), (4, .int l4), (6, .int l6), (9, .int l9)]) hx hb dL_writes_183 hl (by decide) rfl (fun ls hl => ?_)
      obtain ⟨n9, h⟩ := h
      exact bk_L_writes_185 C0 hl9  n9 _ _ _ _ _ _ _ _ _ _ cl9 sl9 kc ks hcc hss h hh hS (lv_sub hl [2, 3, 4, 5, 1, 0] rfl)
    · replace h := h.2 c72
      refine lv_aload_n hx hb dL_writes_159 rfl (lv_at hl 0 rfl) ?_
      refine lv_iload_n hx hb dL_writes_160 rfl (lv_at hl 1 rfl) ?_
      refine lv_iconst (v := 0) hx hb dL_writes_161 (by decide) ?_
      obtain ⟨g75, h⟩ := h
      refine xc_i (va_runV (As := [.int l2, .int (0 : Int32)]) (rest := []) ⟨hx, hb, hml, hown, hts⟩ (mtq_X5_rows l G base h) (cwV 2 hts gL_writes_X5_rows rfl rfl rfl (by decide +kernel) ⟨Nat.le_of_ble_eq_true rfl, Nat.le_of_ble_eq_true rfl⟩) (xp_V hbase hh hK hX hS (ci := 5) g75 (by decide) rfl) rfl rfl hl.1 rfl (lv_room (Nat.le_of_ble_eq_true rfl)) dL_writes_162 ⟨by show _ ≤ MC; omega, by show _ ≤ MS; omega⟩) hS (fun r76 m77 H locs h hh hS => ?_)
      refine lv_iload hx hb dL_writes_165 (lv_at hl 4 rfl) ?_
      refine lv_iconst (v := 1) hx hb dL_writes_167 (by decide) ?_
      refine lv_iadd hx hb dL_writes_168 ?_
      refine lv_iload hx hb dL_writes_169 (lv_at hl 5 rfl) ?_
      refine lv_isub hx hb dL_writes_171 ?_
      refine lv_icmp_ne (tgt := 179) hx hb dL_writes_172 (by decide) (fun c78 => ?_) (fun c78 => ?_)
      · replace h := h.1 c78
        refine lv_iconst (v := 0) hx hb dL_writes_179 (by decide) ?_
        refine lv_topi (fun x79 ex79 => ?_)
        replace h := h x79 ex79
        refine lv_istore (lv' := [(10, .int x79), (0, .ref l0), (2, .int l2), (3, .int l3), (4, .int l4), (6, .int l6), (9, .int l9)]) hx hb dL_writes_180 hl (by decide) rfl (fun ls hl => ?_)
        refine lv_iconst (v := 1) hx hb dL_writes_182 (by decide) ?_
        refine lv_topi (fun x80 ex80 => ?_)
        replace h := h x80 ex80
        refine lv_istore (lv' := [(11, .int x80), (10, .int x79), (0, .ref l0), (2, .int l2), (3, .int l3), (4, .int l4), (6, .int l6), (9, .int l9)]) hx hb dL_writes_183 hl (by decide) rfl (fun ls hl => ?_)
        obtain ⟨n9, h⟩ := h
        exact bk_L_writes_185 C0 hl9  n9 _ _ _ _ _ _ _ _ _ _ cl9 sl9 kc ks hcc hss h hh hS (lv_sub hl [2, 3, 4, 5, 1, 0] rfl)
      · replace h := h.2 c78
        refine lv_iconst (v := 1) hx hb dL_writes_175 (by decide) ?_
        refine lv_goto (tgt := 180) hx hb dL_writes_176 (by decide) ?_
        refine lv_topi (fun x81 ex81 => ?_)
        replace h := h x81 ex81
        refine lv_istore (lv' := [(10, .int x81), (0, .ref l0), (2, .int l2), (3, .int l3), (4, .int l4), (6, .int l6), (9, .int l9)]) hx hb dL_writes_180 hl (by decide) rfl (fun ls hl => ?_)
        refine lv_iconst (v := 1) hx hb dL_writes_182 (by decide) ?_
        refine lv_topi (fun x82 ex82 => ?_)
        replace h := h x82 ex82
        refine lv_istore (lv' := [(11, .int x82), (10, .int x81), (0, .ref l0), (2, .int l2), (3, .int l3), (4, .int l4), (6, .int l6), (9, .int l9)]) hx hb dL_writes_183 hl (by decide) rfl (fun ls hl => ?_)
        obtain ⟨n9, h⟩ := h
        exact bk_L_writes_185 C0 hl9  n9 _ _ _ _ _ _ _ _ _ _ cl9 sl9 kc ks hcc hss h hh hS (lv_sub hl [2, 3, 4, 5, 1, 0] rfl)

set_option maxHeartbeats 4000000 in
set_option maxRecDepth 100000 in
theorem bk_L_writes_54 {p : Program} {l : Launch} {e : Env} {s : State} {m : MethodId} {args : Array Value} {below : List Frame} {meth : Method} {c : Code} {G : GG} {base : Nat} {MC MS : Nat} (C0 : BC p s m args meth c G base RL cL_writes 12 (some .boolean) wsL_writes) (hl9 : l.stackTraces = false) {Q : Int32 → MM → Prop} : ∀ (l0 : Nat) (l2 : Int32) (l3 : Int32) (l4 : Int32) (l5 : Int32) (l6 : Int32) (l7 : Int32) (s0 : Int32) (m0 : MM) (H : Heap) (locs : List Loc) (ls : Array Slot) (cl9 sl9 kc ks : Nat) (hcc : cl9 + kc ≤ MC) (hss : sl9 + ks ≤ MS), wp_L_writes_54 Q l0 l2 l3 l4 l5 l6 l7 s0 m0 kc ks → hp G (xA base) m0 H → va_S (xA base) s.heap H locs → lv_has ls 12 [(0, .ref l0), (2, .int l2), (3, .int l3), (4, .int l4), (5, .int l5), (6, .int l6), (7, .int l7)] → W p l e ({ frames := 11, cells := MC, slots := MS, locals := 235 } : Room) s m args below meth c H locs cl9 sl9 (MQ below (va_Qi Q (HB G base) (xA base)) args s MC MS (xA base)) (F0 m 54 ls [.int s0]) := by
  obtain ⟨hx, hb, hr, hml, hown, hts, hlocks, hK, hbase, hX⟩ := id C0
  intro l0 l2 l3 l4 l5 l6 l7 s0 m0 H locs ls cl9 sl9 kc ks hcc hss h hh hS hl
  unfold wp_L_writes_54 at h
  have q1 : (Cond.constant RL 31 (-2000000)).before _ s = true := hts _ (List.mem_cons_of_mem _ (List.mem_append_left _ (List.mem_append_left _ (List.mem_append_left _ (List.mem_append_left _ (List.mem_append_left _ (List.mem_append_left _ (List.mem_append_left _ (List.mem_append_left _ (List.mem_append_left _ (List.mem_of_getElem? (i := 0) rfl)))))))))))
  refine lv_istore (lv' := [(8, .int s0), (0, .ref l0), (2, .int l2), (3, .int l3), (4, .int l4), (5, .int l5), (6, .int l6), (7, .int l7)]) hx hb dL_writes_54 hl (by decide) rfl (fun ls hl => ?_)
  refine lv_aload_n hx hb dL_writes_56 rfl (lv_at hl 1 rfl) ?_
  refine lv_iload_n hx hb dL_writes_57 rfl (lv_at hl 2 rfl) ?_
  refine lv_iload_n hx hb dL_writes_58 rfl (lv_at hl 3 rfl) ?_
  refine lv_iload hx hb dL_writes_59 (lv_at hl 4 rfl) ?_
  obtain ⟨c17, s18, g19, g20, h⟩ := h
  refine xt_i (vx_runSX (As := [.ref l0, .int l2, .int l3, .int l4]) (rest := []) ⟨hx, hb, hml, hown, hts⟩ (mt_L_put l hl9 G base h) (vx_cwSW 4 hts gL_writes_L_put rfl rfl rfl (by decide +kernel) ⟨Nat.le_of_ble_eq_true rfl, Nat.le_of_ble_eq_true rfl⟩) (xp_S hbase hh hK hX hS) rfl rfl hl.1 rfl (lv_room (Nat.le_of_ble_eq_true rfl)) dL_writes_61 ⟨by show _ ≤ MC; omega, by show _ ≤ MS; omega⟩) hS (fun k9 m9 H locs q9 ce h hh hS hc9 hv9 hcl9 => h.elim) (fun r21 m22 H locs h hh hS => ?_)
  obtain ⟨kc23, ekc23⟩ : ∃ z : Nat, z = kc - c17 := ⟨_, rfl⟩
  obtain ⟨ks24, eks24⟩ : ∃ z : Nat, z = ks - s18 := ⟨_, rfl⟩
  replace h := h kc23 ks24 ekc23 eks24
  obtain ⟨cl25, ecl25⟩ : ∃ z : Nat, z = cl9 + c17 := ⟨_, rfl⟩
  obtain ⟨sl26, esl26⟩ : ∃ z : Nat, z = sl9 + s18 := ⟨_, rfl⟩
  refine W_cs ecl25 esl26 ?_
  have hcc : cl25 + kc23 ≤ MC := by omega
  have hss : sl26 + ks24 ≤ MS := by omega
  refine lv_istore (lv' := [(9, .int r21), (8, .int s0), (0, .ref l0), (2, .int l2), (3, .int l3), (4, .int l4), (5, .int l5), (6, .int l6), (7, .int l7)]) hx hb dL_writes_64 hl (by decide) rfl (fun ls hl => ?_)
  refine lv_iload_n hx hb dL_writes_66 rfl (lv_at hl 4 rfl) ?_
  refine lv_aload_n hx hb dL_writes_67 rfl (lv_at hl 2 rfl) ?_
  obtain ⟨g27, h⟩ := h
  refine xc_i (va_runV (As := []) (rest := [.int l3]) ⟨hx, hb, hml, hown, hts⟩ (mt_X5_clock l G base h) (cwV 0 hts gL_writes_X5_clock rfl rfl rfl (by decide +kernel) ⟨Nat.le_of_ble_eq_true rfl, Nat.le_of_ble_eq_true rfl⟩) (xp_V hbase hh hK hX hS (ci := 5) g27 (by decide) rfl) rfl rfl hl.1 rfl (lv_room (Nat.le_of_ble_eq_true rfl)) dL_writes_68 ⟨by show _ ≤ MC; omega, by show _ ≤ MS; omega⟩) hS (fun r28 m29 H locs h hh hS => ?_)
  refine lv_icmp_le (tgt := 86) hx hb dL_writes_71 (by decide) (fun c30 => ?_) (fun c30 => ?_)
  · replace h := h.1 c30
    refine lv_iload hx hb dL_writes_86 (lv_at hl 8 rfl) ?_
    refine lv_if_ne (tgt := 96) hx hb dL_writes_88 (by decide) (fun c31 => ?_) (fun c31 => ?_)
    · replace h := h.1 c31
      exact bk_L_writes_96 C0 hl9  _ _ _ _ _ _ _ _ _ _ cl25 sl26 kc23 ks24 hcc hss h hh hS (lv_sub hl [2, 3, 4, 6, 7, 0] rfl)
    · replace h := h.2 c31
      refine lv_iload hx hb dL_writes_91 (lv_at hl 1 rfl) ?_
      refine lv_if_eq (tgt := 131) hx hb dL_writes_93 (by decide) (fun c46 => ?_) (fun c46 => ?_)
      · replace h := h.1 c46
        refine lv_iload hx hb dL_writes_131 (lv_at hl 0 rfl) ?_
        refine lv_iload hx hb dL_writes_133 (lv_at hl 6 rfl) ?_
        refine lv_ldc hx hb hown q1 dL_writes_135 ?_
        refine lv_icmp_ne (tgt := 144) hx hb dL_writes_137 (by decide) (fun c47 => ?_) (fun c47 => ?_)
        · replace h := h.1 c47
          refine lv_iconst (v := 1) hx hb dL_writes_144 (by decide) ?_
          exact bk_L_writes_145 C0 hl9  _ _ _ _ _ _ _ _ _ _ _ _ cl25 sl26 kc23 ks24 hcc hss h hh hS (lv_sub hl [2, 3, 4, 5, 7, 0] rfl)
        · replace h := h.2 c47
          refine lv_iconst (v := 0) hx hb dL_writes_140 (by decide) ?_
          refine lv_goto (tgt := 145) hx hb dL_writes_141 (by decide) ?_
          exact bk_L_writes_145 C0 hl9  _ _ _ _ _ _ _ _ _ _ _ _ cl25 sl26 kc23 ks24 hcc hss h hh hS (lv_sub hl [2, 3, 4, 5, 7, 0] rfl)
      · replace h := h.2 c46
        exact bk_L_writes_96 C0 hl9  _ _ _ _ _ _ _ _ _ _ cl25 sl26 kc23 ks24 hcc hss h hh hS (lv_sub hl [2, 3, 4, 6, 7, 0] rfl)
  · replace h := h.2 c30
    refine lv_iload hx hb dL_writes_74 (lv_at hl 0 rfl) ?_
    refine lv_iconst (v := -1) hx hb dL_writes_76 (by decide) ?_
    refine lv_icmp_ne (tgt := 84) hx hb dL_writes_77 (by decide) (fun c83 => ?_) (fun c83 => ?_)
    · replace h := h.1 c83
      refine lv_iconst (v := 0) hx hb dL_writes_84 (by decide) ?_
      exact (xe_z hx hb hr hlocks hbase hh hK hX hS (Or.inl rfl) h (by omega) (by omega) dL_writes_85)
    · replace h := h.2 c83
      refine lv_iconst (v := 1) hx hb dL_writes_80 (by decide) ?_
      refine lv_goto (tgt := 85) hx hb dL_writes_81 (by decide) ?_
      exact (xe_z hx hb hr hlocks hbase hh hK hX hS (Or.inr rfl) h (by omega) (by omega) dL_writes_85)

set_option maxHeartbeats 4000000 in
set_option maxRecDepth 100000 in
theorem bk_L_writes_53 {p : Program} {l : Launch} {e : Env} {s : State} {m : MethodId} {args : Array Value} {below : List Frame} {meth : Method} {c : Code} {G : GG} {base : Nat} {MC MS : Nat} (C0 : BC p s m args meth c G base RL cL_writes 12 (some .boolean) wsL_writes) (hl9 : l.stackTraces = false) {Q : Int32 → MM → Prop} : ∀ (l0 : Nat) (l2 : Int32) (l3 : Int32) (l4 : Int32) (l5 : Int32) (l6 : Int32) (l7 : Int32) (m0 : MM) (H : Heap) (locs : List Loc) (ls : Array Slot) (cl9 sl9 kc ks : Nat) (hcc : cl9 + kc ≤ MC) (hss : sl9 + ks ≤ MS), wp_L_writes_53 Q l0 l2 l3 l4 l5 l6 l7 m0 kc ks → hp G (xA base) m0 H → va_S (xA base) s.heap H locs → lv_has ls 12 [(0, .ref l0), (2, .int l2), (3, .int l3), (4, .int l4), (5, .int l5), (6, .int l6), (7, .int l7)] → W p l e ({ frames := 11, cells := MC, slots := MS, locals := 235 } : Room) s m args below meth c H locs cl9 sl9 (MQ below (va_Qi Q (HB G base) (xA base)) args s MC MS (xA base)) (F0 m 53 ls []) := by
  obtain ⟨hx, hb, hr, hml, hown, hts, hlocks, hK, hbase, hX⟩ := id C0
  intro l0 l2 l3 l4 l5 l6 l7 m0 H locs ls cl9 sl9 kc ks hcc hss h hh hS hl
  unfold wp_L_writes_53 at h
  refine lv_iconst (v := 0) hx hb dL_writes_53 (by decide) ?_
  exact bk_L_writes_54 C0 hl9  _ _ _ _ _ _ _ _ _ _ _ _ cl9 sl9 kc ks hcc hss h hh hS (lv_sub hl [0, 1, 2, 3, 4, 5, 6] rfl)

set_option maxHeartbeats 4000000 in
set_option maxRecDepth 100000 in
theorem bk_L_writes_33 {p : Program} {l : Launch} {e : Env} {s : State} {m : MethodId} {args : Array Value} {below : List Frame} {meth : Method} {c : Code} {G : GG} {base : Nat} {MC MS : Nat} (C0 : BC p s m args meth c G base RL cL_writes 12 (some .boolean) wsL_writes) (hl9 : l.stackTraces = false) {Q : Int32 → MM → Prop} : ∀ (l0 : Nat) (l2 : Int32) (l3 : Int32) (l4 : Int32) (l5 : Int32) (l6 : Int32) (s0 : Int32) (m0 : MM) (H : Heap) (locs : List Loc) (ls : Array Slot) (cl9 sl9 kc ks : Nat) (hcc : cl9 + kc ≤ MC) (hss : sl9 + ks ≤ MS), wp_L_writes_33 Q l0 l2 l3 l4 l5 l6 s0 m0 kc ks → hp G (xA base) m0 H → va_S (xA base) s.heap H locs → lv_has ls 12 [(0, .ref l0), (2, .int l2), (3, .int l3), (4, .int l4), (5, .int l5), (6, .int l6)] → W p l e ({ frames := 11, cells := MC, slots := MS, locals := 235 } : Room) s m args below meth c H locs cl9 sl9 (MQ below (va_Qi Q (HB G base) (xA base)) args s MC MS (xA base)) (F0 m 33 ls [.int s0]) := by
  obtain ⟨hx, hb, hr, hml, hown, hts, hlocks, hK, hbase, hX⟩ := id C0
  intro l0 l2 l3 l4 l5 l6 s0 m0 H locs ls cl9 sl9 kc ks hcc hss h hh hS hl
  unfold wp_L_writes_33 at h
  have q1 : (Cond.constant RL 31 (-2000000)).before _ s = true := hts _ (List.mem_cons_of_mem _ (List.mem_append_left _ (List.mem_append_left _ (List.mem_append_left _ (List.mem_append_left _ (List.mem_append_left _ (List.mem_append_left _ (List.mem_append_left _ (List.mem_append_left _ (List.mem_append_left _ (List.mem_of_getElem? (i := 0) rfl)))))))))))
  refine lv_istore (lv' := [(7, .int s0), (0, .ref l0), (2, .int l2), (3, .int l3), (4, .int l4), (5, .int l5), (6, .int l6)]) hx hb dL_writes_33 hl (by decide) rfl (fun ls hl => ?_)
  refine lv_iload hx hb dL_writes_35 (lv_at hl 5 rfl) ?_
  refine lv_ldc hx hb hown q1 dL_writes_37 ?_
  refine lv_icmp_ne (tgt := 53) hx hb dL_writes_39 (by decide) (fun c16 => ?_) (fun c16 => ?_)
  · replace h := h.1 c16
    exact bk_L_writes_53 C0 hl9  _ _ _ _ _ _ _ _ _ _ _ cl9 sl9 kc ks hcc hss h hh hS (lv_sub hl [1, 2, 3, 4, 5, 6, 0] rfl)
  · replace h := h.2 c16
    refine lv_iload hx hb dL_writes_42 (lv_at hl 6 rfl) ?_
    refine lv_bipush (v := 100) hx hb dL_writes_44 (by decide) ?_
    refine lv_icmp_ne (tgt := 53) hx hb dL_writes_46 (by decide) (fun c84 => ?_) (fun c84 => ?_)
    · replace h := h.1 c84
      exact bk_L_writes_53 C0 hl9  _ _ _ _ _ _ _ _ _ _ _ cl9 sl9 kc ks hcc hss h hh hS (lv_sub hl [1, 2, 3, 4, 5, 6, 0] rfl)
    · replace h := h.2 c84
      refine lv_iconst (v := 1) hx hb dL_writes_49 (by decide) ?_
      refine lv_goto (tgt := 54) hx hb dL_writes_50 (by decide) ?_
      exact bk_L_writes_54 C0 hl9  _ _ _ _ _ _ _ _ _ _ _ _ cl9 sl9 kc ks hcc hss h hh hS (lv_sub hl [1, 2, 3, 4, 5, 6, 0] rfl)

set_option maxHeartbeats 4000000 in
set_option maxRecDepth 100000 in
theorem mt_L_writes (l : Launch) (hl9 : l.stackTraces = false) (G : GG) (base : Nat) {p1 : Nat} {p2 : Nat} {p3 : Int32} {p4 : Int32} {p5 : Int32} {m0 : MM} {Q : Int32 → MM → Prop} {kc ks : Nat} (h : wp_L_writes p1 p2 p3 p4 p5 m0 Q kc ks) : Met l yL_writes wsL_writes ({ frames := 11, cells := kc, slots := ks, locals := 235 }) (va_Pc [.ref p1, .ref p2, .int p3, .int p4, .int p5] (SP G base m0)) (va_Qi Q (HB G base) (xA base)) kc ks (xA base) := by
  refine Met.ofW (cc := cL_writes) (maxL := 12) (ret := (some .boolean)) (by decide) rfl ?_
  intro p e s m args below meth c s₁ B hml hv
  obtain ⟨rfl, hbase, hh, hK, hX⟩ := hv
  have C0 : BC p s m _ meth c G base RL cL_writes 12 (some .boolean) wsL_writes := ⟨B.exec, B.bytes, B.returns, hml, findClass_of_methodNamed B.named, atoms_spec (ws := wsL_writes) B.pre, B.notSynchronized, hK, hbase, hX⟩
  obtain ⟨hx, hb, hr, -, hown, hts, hlocks, -, -, -⟩ := id C0
  have hS : va_S (xA base) s.heap s.heap [] := va_S.rf
  have hl := lv_entry ([.ref p1, .ref p2, .int p3, .int p4, .int p5]) (n := 12) (Nat.le_of_ble_eq_true rfl)
  rw [lg_entry_eq]
  generalize (lg_sl ([.ref p1, .ref p2, .int p3, .int p4, .int p5]) ++ List.replicate (12 - (lg_sl ([.ref p1, .ref p2, .int p3, .int p4, .int p5])).length) Slot.unset).toArray = ls at hl ⊢
  have hl : lv_has ls 12 [(0, .ref p1), (1, .ref p2), (2, .int p3), (3, .int p4), (4, .int p5)] := hl
  unfold wp_L_writes at h
  have hcc : 0 + kc ≤ kc := by omega
  have hss : 0 + ks ≤ ks := by omega
  refine lv_aload_n hx hb dL_writes_0 rfl (lv_at hl 0 rfl) ?_
  refine lv_iload_n hx hb dL_writes_1 rfl (lv_at hl 2 rfl) ?_
  refine lv_iload_n hx hb dL_writes_2 rfl (lv_at hl 3 rfl) ?_
  obtain ⟨g1, g2, h⟩ := h
  refine xt_i (vx_runSX (As := [.ref p1, .int p3, .int p4]) (rest := []) ⟨hx, hb, hml, hown, hts⟩ (mt_L_valueAt l hl9 G base h) (vx_cwSW 3 hts gL_writes_L_valueAt rfl rfl rfl (by decide +kernel) ⟨Nat.le_of_ble_eq_true rfl, Nat.le_of_ble_eq_true rfl⟩) (xp_S hbase hh hK hX hS) rfl rfl hl.1 rfl (lv_room (Nat.le_of_ble_eq_true rfl)) dL_writes_3 ⟨by show _ ≤ kc; omega, by show _ ≤ ks; omega⟩) hS (fun k9 m9 H locs q9 ce h hh hS hc9 hv9 hcl9 => h.elim) (fun r3 m4 H locs h hh hS => ?_)
  obtain ⟨kc5, ekc5⟩ : ∃ z : Nat, z = kc - 2 := ⟨_, rfl⟩
  obtain ⟨ks6, eks6⟩ : ∃ z : Nat, z = ks - 12 := ⟨_, rfl⟩
  replace h := h kc5 ks6 ekc5 eks6
  obtain ⟨cl7, ecl7⟩ : ∃ z : Nat, z = 0 + 2 := ⟨_, rfl⟩
  obtain ⟨sl8, esl8⟩ : ∃ z : Nat, z = 0 + 12 := ⟨_, rfl⟩
  refine W_cs ecl7 esl8 ?_
  have hcc : cl7 + kc5 ≤ kc := by omega
  have hss : sl8 + ks6 ≤ ks := by omega
  refine lv_istore (lv' := [(5, .int r3), (0, .ref p1), (1, .ref p2), (2, .int p3), (3, .int p4), (4, .int p5)]) hx hb dL_writes_6 hl (by decide) rfl (fun ls hl => ?_)
  refine lv_aload_n hx hb dL_writes_8 rfl (lv_at hl 1 rfl) ?_
  refine lv_iload_n hx hb dL_writes_9 rfl (lv_at hl 3 rfl) ?_
  refine lv_iconst (v := 0) hx hb dL_writes_10 (by decide) ?_
  obtain ⟨g9, h⟩ := h
  refine xc_i (va_runV (As := [.int p3, .int (0 : Int32)]) (rest := []) ⟨hx, hb, hml, hown, hts⟩ (mtq_X5_rows l G base h) (cwV 2 hts gL_writes_X5_rows rfl rfl rfl (by decide +kernel) ⟨Nat.le_of_ble_eq_true rfl, Nat.le_of_ble_eq_true rfl⟩) (xp_V hbase hh hK hX hS (ci := 5) g9 (by decide) rfl) rfl rfl hl.1 rfl (lv_room (Nat.le_of_ble_eq_true rfl)) dL_writes_11 ⟨by show _ ≤ kc; omega, by show _ ≤ ks; omega⟩) hS (fun r10 m11 H locs h hh hS => ?_)
  refine lv_istore (lv' := [(6, .int r10), (5, .int r3), (0, .ref p1), (1, .ref p2), (2, .int p3), (3, .int p4), (4, .int p5)]) hx hb dL_writes_14 hl (by decide) rfl (fun ls hl => ?_)
  refine lv_iload_n hx hb dL_writes_16 rfl (lv_at hl 5 rfl) ?_
  refine lv_aload_n hx hb dL_writes_17 rfl (lv_at hl 2 rfl) ?_
  obtain ⟨g12, h⟩ := h
  refine xc_i (va_runV (As := []) (rest := [.int p4]) ⟨hx, hb, hml, hown, hts⟩ (mt_X5_clock l G base h) (cwV 0 hts gL_writes_X5_clock rfl rfl rfl (by decide +kernel) ⟨Nat.le_of_ble_eq_true rfl, Nat.le_of_ble_eq_true rfl⟩) (xp_V hbase hh hK hX hS (ci := 5) g12 (by decide) rfl) rfl rfl hl.1 rfl (lv_room (Nat.le_of_ble_eq_true rfl)) dL_writes_18 ⟨by show _ ≤ kc; omega, by show _ ≤ ks; omega⟩) hS (fun r13 m14 H locs h hh hS => ?_)
  refine lv_sipush (v := 3600) hx hb dL_writes_21 (by decide) ?_
  refine lv_isub hx hb dL_writes_24 ?_
  refine lv_icmp_ge (tgt := 32) hx hb dL_writes_25 (by decide) (fun c15 => ?_) (fun c15 => ?_)
  · replace h := h.1 c15
    refine lv_iconst (v := 0) hx hb dL_writes_32 (by decide) ?_
    exact bk_L_writes_33 C0 hl9  _ _ _ _ _ _ _ _ _ _ _ cl7 sl8 kc5 ks6 hcc hss h hh hS (lv_sub hl [2, 4, 5, 6, 1, 0] rfl)
  · replace h := h.2 c15
    refine lv_iconst (v := 1) hx hb dL_writes_28 (by decide) ?_
    refine lv_goto (tgt := 33) hx hb dL_writes_29 (by decide) ?_
    exact bk_L_writes_33 C0 hl9  _ _ _ _ _ _ _ _ _ _ _ cl7 sl8 kc5 ks6 hcc hss h hh hS (lv_sub hl [2, 4, 5, 6, 1, 0] rfl)

set_option maxHeartbeats 4000000 in
set_option maxRecDepth 100000 in
theorem bk_L_writesMany_6 {p : Program} {l : Launch} {e : Env} {s : State} {m : MethodId} {args : Array Value} {below : List Frame} {meth : Method} {c : Code} {G : GG} {base : Nat} {MC MS : Nat} (C0 : BC p s m args meth c G base RL cL_writesMany 12 (some .boolean) wsL_writesMany) (hl9 : l.stackTraces = false) {Q : Int32 → MM → Prop} : ∀ (n : Nat) (l0 : Nat) (l1 : Nat) (l2 : Int32) (l3 : Int32) (l4 : Int32) (l5 : Int32) (l6 : Int32) (l7 : Int32) (l8 : Int32) (l9 : Int32) (l10 : Int32) (m0 : MM) (H : Heap) (locs : List Loc) (ls : Array Slot) (cl9 sl9 kc ks : Nat) (hcc : cl9 + kc ≤ MC) (hss : sl9 + ks ≤ MS), wp_L_writesMany_6 Q n l0 l1 l2 l3 l4 l5 l6 l7 l8 l9 l10 m0 kc ks → hp G (xA base) m0 H → va_S (xA base) s.heap H locs → lv_has ls 12 [(0, .ref l0), (1, .ref l1), (2, .int l2), (3, .int l3), (4, .int l4), (5, .int l5), (6, .int l6), (7, .int l7), (8, .int l8), (9, .int l9), (10, .int l10)] → W p l e ({ frames := 9, cells := MC, slots := MS, locals := 235 } : Room) s m args below meth c H locs cl9 sl9 (MQ below (va_Qi Q (HB G base) (xA base)) args s MC MS (xA base)) (F0 m 6 ls []) := by
  obtain ⟨hx, hb, hr, hml, hown, hts, hlocks, hK, hbase, hX⟩ := id C0
  intro n
  induction n with
  | zero =>
    intro l0 l1 l2 l3 l4 l5 l6 l7 l8 l9 l10 m0 H locs ls cl9 sl9 kc ks hcc hss h
    unfold wp_L_writesMany_6 at h
    exact h.elim
  | succ n ih =>
    intro l0 l1 l2 l3 l4 l5 l6 l7 l8 l9 l10 m0 H locs ls cl9 sl9 kc ks hcc hss h hh hS hl
    unfold wp_L_writesMany_6 at h
    have q1 : (Cond.constant RL 130 (-1000000)).before _ s = true := hts _ (List.mem_cons_of_mem _ (List.mem_append_left _ (List.mem_append_left _ (List.mem_append_left _ (List.mem_append_left _ (List.mem_append_left _ (List.mem_append_left _ (List.mem_append_left _ (List.mem_append_left _ (List.mem_append_left _ (List.mem_of_getElem? (i := 0) rfl)))))))))))
    have q2 : (Cond.constant RL 131 (1000000)).before _ s = true := hts _ (List.mem_cons_of_mem _ (List.mem_append_left _ (List.mem_append_left _ (List.mem_append_left _ (List.mem_append_left _ (List.mem_append_left _ (List.mem_append_left _ (List.mem_append_left _ (List.mem_append_left _ (List.mem_append_left _ (List.mem_of_getElem? (i := 1) rfl)))))))))))
    refine lv_iload hx hb dL_writesMany_6 (lv_at hl 10 rfl) ?_
    refine lv_iload hx hb dL_writesMany_8 (lv_at hl 7 rfl) ?_
    refine lv_icmp_ge (tgt := 86) hx hb dL_writesMany_10 (by decide) (fun c3 => ?_) (fun c3 => ?_)
    · replace h := h.1 c3
      refine lv_iload hx hb dL_writesMany_86 (lv_at hl 9 rfl) ?_
      refine lv_if_eq (tgt := 110) hx hb dL_writesMany_88 (by decide) (fun c4 => ?_) (fun c4 => ?_)
      · replace h := h.1 c4
        refine lv_iconst (v := 1) hx hb dL_writesMany_110 (by decide) ?_
        refine lv_goto (tgt := 115) hx hb dL_writesMany_111 (by decide) ?_
        exact (xe_z hx hb hr hlocks hbase hh hK hX hS (Or.inr rfl) h (by omega) (by omega) dL_writesMany_115)
      · replace h := h.2 c4
        refine lv_aload_n hx hb dL_writesMany_91 rfl (lv_at hl 0 rfl) ?_
        refine lv_iload_n hx hb dL_writesMany_92 rfl (lv_at hl 2 rfl) ?_
        refine lv_iload_n hx hb dL_writesMany_93 rfl (lv_at hl 3 rfl) ?_
        refine lv_iload hx hb dL_writesMany_94 (lv_at hl 4 rfl) ?_
        refine lv_iload hx hb dL_writesMany_96 (lv_at hl 5 rfl) ?_
        refine lv_iload hx hb dL_writesMany_98 (lv_at hl 6 rfl) ?_
        refine lv_iload hx hb dL_writesMany_100 (lv_at hl 7 rfl) ?_
        obtain ⟨c5, s6, g7, g8, h⟩ := h
        obtain ⟨g9, h⟩ := h
        refine xc_i (va_runV (As := [.int l2, .int l3, .int l4, .int l5, .int l6, .int l7]) (rest := []) ⟨hx, hb, hml, hown, hts⟩ (mtq_X5_putMany l G base h) (cwV 6 hts gL_writesMany_X5_putMany rfl rfl rfl (by decide +kernel) ⟨Nat.le_of_ble_eq_true rfl, Nat.le_of_ble_eq_true rfl⟩) (xp_V hbase hh hK hX hS (ci := 5) g9 (by decide) rfl) rfl rfl hl.1 rfl (lv_room (Nat.le_of_ble_eq_true rfl)) dL_writesMany_102 ⟨by show _ ≤ MC; omega, by show _ ≤ MS; omega⟩) hS (fun r10 m11 H locs h hh hS => ?_)
        obtain ⟨kc12, ekc12⟩ : ∃ z : Nat, z = kc - c5 := ⟨_, rfl⟩
        obtain ⟨ks13, eks13⟩ : ∃ z : Nat, z = ks - s6 := ⟨_, rfl⟩
        replace h := h kc12 ks13 ekc12 eks13
        obtain ⟨cl14, ecl14⟩ : ∃ z : Nat, z = cl9 + c5 := ⟨_, rfl⟩
        obtain ⟨sl15, esl15⟩ : ∃ z : Nat, z = sl9 + s6 := ⟨_, rfl⟩
        refine W_cs ecl14 esl15 ?_
        have hcc : cl14 + kc12 ≤ MC := by omega
        have hss : sl15 + ks13 ≤ MS := by omega
        refine lv_iload hx hb dL_writesMany_105 (lv_at hl 9 rfl) ?_
        refine lv_icmp_ne (tgt := 114) hx hb dL_writesMany_107 (by decide) (fun c16 => ?_) (fun c16 => ?_)
        · replace h := h.1 c16
          refine lv_iconst (v := 0) hx hb dL_writesMany_114 (by decide) ?_
          exact (xe_z hx hb hr hlocks hbase hh hK hX hS (Or.inl rfl) h (by omega) (by omega) dL_writesMany_115)
        · replace h := h.2 c16
          refine lv_iconst (v := 1) hx hb dL_writesMany_110 (by decide) ?_
          refine lv_goto (tgt := 115) hx hb dL_writesMany_111 (by decide) ?_
          exact (xe_z hx hb hr hlocks hbase hh hK hX hS (Or.inr rfl) h (by omega) (by omega) dL_writesMany_115)
    · replace h := h.2 c3
      refine lv_iload hx hb dL_writesMany_13 (lv_at hl 9 rfl) ?_
      refine lv_iload hx hb dL_writesMany_15 (lv_at hl 10 rfl) ?_
      refine lv_icmp_ne (tgt := 86) hx hb dL_writesMany_17 (by decide) (fun c17 => ?_) (fun c17 => ?_)
      · replace h := h.1 c17
        refine lv_iload hx hb dL_writesMany_86 (lv_at hl 9 rfl) ?_
        refine lv_if_eq (tgt := 110) hx hb dL_writesMany_88 (by decide) (fun c18 => ?_) (fun c18 => ?_)
        · replace h := h.1 c18
          refine lv_iconst (v := 1) hx hb dL_writesMany_110 (by decide) ?_
          refine lv_goto (tgt := 115) hx hb dL_writesMany_111 (by decide) ?_
          exact (xe_z hx hb hr hlocks hbase hh hK hX hS (Or.inr rfl) h (by omega) (by omega) dL_writesMany_115)
        · replace h := h.2 c18
          refine lv_aload_n hx hb dL_writesMany_91 rfl (lv_at hl 0 rfl) ?_
          refine lv_iload_n hx hb dL_writesMany_92 rfl (lv_at hl 2 rfl) ?_
          refine lv_iload_n hx hb dL_writesMany_93 rfl (lv_at hl 3 rfl) ?_
          refine lv_iload hx hb dL_writesMany_94 (lv_at hl 4 rfl) ?_
          refine lv_iload hx hb dL_writesMany_96 (lv_at hl 5 rfl) ?_
          refine lv_iload hx hb dL_writesMany_98 (lv_at hl 6 rfl) ?_
          refine lv_iload hx hb dL_writesMany_100 (lv_at hl 7 rfl) ?_
          obtain ⟨c19, s20, g21, g22, h⟩ := h
          obtain ⟨g23, h⟩ := h
          refine xc_i (va_runV (As := [.int l2, .int l3, .int l4, .int l5, .int l6, .int l7]) (rest := []) ⟨hx, hb, hml, hown, hts⟩ (mtq_X5_putMany l G base h) (cwV 6 hts gL_writesMany_X5_putMany rfl rfl rfl (by decide +kernel) ⟨Nat.le_of_ble_eq_true rfl, Nat.le_of_ble_eq_true rfl⟩) (xp_V hbase hh hK hX hS (ci := 5) g23 (by decide) rfl) rfl rfl hl.1 rfl (lv_room (Nat.le_of_ble_eq_true rfl)) dL_writesMany_102 ⟨by show _ ≤ MC; omega, by show _ ≤ MS; omega⟩) hS (fun r24 m25 H locs h hh hS => ?_)
          obtain ⟨kc26, ekc26⟩ : ∃ z : Nat, z = kc - c19 := ⟨_, rfl⟩
          obtain ⟨ks27, eks27⟩ : ∃ z : Nat, z = ks - s20 := ⟨_, rfl⟩
          replace h := h kc26 ks27 ekc26 eks27
          obtain ⟨cl28, ecl28⟩ : ∃ z : Nat, z = cl9 + c19 := ⟨_, rfl⟩
          obtain ⟨sl29, esl29⟩ : ∃ z : Nat, z = sl9 + s20 := ⟨_, rfl⟩
          refine W_cs ecl28 esl29 ?_
          have hcc : cl28 + kc26 ≤ MC := by omega
          have hss : sl29 + ks27 ≤ MS := by omega
          refine lv_iload hx hb dL_writesMany_105 (lv_at hl 9 rfl) ?_
          refine lv_icmp_ne (tgt := 114) hx hb dL_writesMany_107 (by decide) (fun c30 => ?_) (fun c30 => ?_)
          · replace h := h.1 c30
            refine lv_iconst (v := 0) hx hb dL_writesMany_114 (by decide) ?_
            exact (xe_z hx hb hr hlocks hbase hh hK hX hS (Or.inl rfl) h (by omega) (by omega) dL_writesMany_115)
          · replace h := h.2 c30
            refine lv_iconst (v := 1) hx hb dL_writesMany_110 (by decide) ?_
            refine lv_goto (tgt := 115) hx hb dL_writesMany_111 (by decide) ?_
            exact (xe_z hx hb hr hlocks hbase hh hK hX hS (Or.inr rfl) h (by omega) (by omega) dL_writesMany_115)
      · replace h := h.2 c17
        refine lv_iload hx hb dL_writesMany_20 (lv_at hl 4 rfl) ?_
        refine lv_iload hx hb dL_writesMany_22 (lv_at hl 10 rfl) ?_
        refine lv_iload hx hb dL_writesMany_24 (lv_at hl 6 rfl) ?_
        refine lv_imul hx hb dL_writesMany_26 ?_
        refine lv_iadd hx hb dL_writesMany_27 ?_
        refine lv_topi (fun x31 ex31 => ?_)
        replace h := h x31 ex31
        refine lv_istore (lv' := [(11, .int x31), (0, .ref l0), (1, .ref l1), (2, .int l2), (3, .int l3), (4, .int l4), (5, .int l5), (6, .int l6), (7, .int l7), (8, .int l8), (9, .int l9), (10, .int l10)]) hx hb dL_writesMany_28 hl (by decide) rfl (fun ls hl => ?_)
        refine lv_iload hx hb dL_writesMany_30 (lv_at hl 10 rfl) ?_
        refine lv_iload hx hb dL_writesMany_32 (lv_at hl 0 rfl) ?_
        refine lv_iload hx hb dL_writesMany_34 (lv_at hl 9 rfl) ?_
        refine lv_if_eq (tgt := 43) hx hb dL_writesMany_36 (by decide) (fun c32 => ?_) (fun c32 => ?_)
        · replace h := h.1 c32
          refine lv_ldc hx hb hown q1 dL_writesMany_43 ?_
          refine lv_icmp_lt (tgt := 76) hx hb dL_writesMany_45 (by decide) (fun c33 => ?_) (fun c33 => ?_)
          · replace h := h.1 c33
            refine lv_iconst (v := 0) hx hb dL_writesMany_76 (by decide) ?_
            refine lv_iadd hx hb dL_writesMany_77 ?_
            refine lv_topi (fun x34 ex34 => ?_)
            replace h := h x34 ex34
            refine lv_istore (lv' := [(9, .int x34), (11, .int x31), (0, .ref l0), (1, .ref l1), (2, .int l2), (3, .int l3), (4, .int l4), (5, .int l5), (6, .int l6), (7, .int l7), (8, .int l8), (10, .int l10)]) hx hb dL_writesMany_78 hl (by decide) rfl (fun ls hl => ?_)
            obtain ⟨x35, ex35⟩ : ∃ y : Int32, y = l10 + 1 := ⟨_, rfl⟩
            replace h := h x35 ex35
            refine lv_iinc (v := x35) (lv' := [(10, .int x35), (9, .int x34), (11, .int x31), (0, .ref l0), (1, .ref l1), (2, .int l2), (3, .int l3), (4, .int l4), (5, .int l5), (6, .int l6), (7, .int l7), (8, .int l8)]) hx hb dL_writesMany_80 hl (k := 11) rfl (by rw [ex35]; rfl) (by decide) rfl (fun ls hl => ?_)
            refine lv_goto (tgt := 6) hx hb dL_writesMany_83 (by decide) ?_
            exact ih _ _ _ _ _ _ _ _ _ _ _ _ _ _ _ cl9 sl9 kc ks hcc hss h hh hS (lv_sub hl [3, 4, 5, 6, 7, 8, 9, 10, 11, 1, 0] rfl)
          · replace h := h.2 c33
            refine lv_iload hx hb dL_writesMany_48 (lv_at hl 0 rfl) ?_
            refine lv_ldc hx hb hown q2 dL_writesMany_50 ?_
            refine lv_icmp_gt (tgt := 76) hx hb dL_writesMany_52 (by decide) (fun c36 => ?_) (fun c36 => ?_)
            · replace h := h.1 c36
              refine lv_iconst (v := 0) hx hb dL_writesMany_76 (by decide) ?_
              refine lv_iadd hx hb dL_writesMany_77 ?_
              refine lv_topi (fun x37 ex37 => ?_)
              replace h := h x37 ex37
              refine lv_istore (lv' := [(9, .int x37), (11, .int x31), (0, .ref l0), (1, .ref l1), (2, .int l2), (3, .int l3), (4, .int l4), (5, .int l5), (6, .int l6), (7, .int l7), (8, .int l8), (10, .int l10)]) hx hb dL_writesMany_78 hl (by decide) rfl (fun ls hl => ?_)
              obtain ⟨x38, ex38⟩ : ∃ y : Int32, y = l10 + 1 := ⟨_, rfl⟩
              replace h := h x38 ex38
              refine lv_iinc (v := x38) (lv' := [(10, .int x38), (9, .int x37), (11, .int x31), (0, .ref l0), (1, .ref l1), (2, .int l2), (3, .int l3), (4, .int l4), (5, .int l5), (6, .int l6), (7, .int l7), (8, .int l8)]) hx hb dL_writesMany_80 hl (k := 11) rfl (by rw [ex38]; rfl) (by decide) rfl (fun ls hl => ?_)
              refine lv_goto (tgt := 6) hx hb dL_writesMany_83 (by decide) ?_
              exact ih _ _ _ _ _ _ _ _ _ _ _ _ _ _ _ cl9 sl9 kc ks hcc hss h hh hS (lv_sub hl [3, 4, 5, 6, 7, 8, 9, 10, 11, 1, 0] rfl)
            · replace h := h.2 c36
              refine lv_aload_n hx hb dL_writesMany_55 rfl (lv_at hl 2 rfl) ?_
              refine lv_iload_n hx hb dL_writesMany_56 rfl (lv_at hl 3 rfl) ?_
              refine lv_iload_n hx hb dL_writesMany_57 rfl (lv_at hl 4 rfl) ?_
              refine lv_iload hx hb dL_writesMany_58 (lv_at hl 11 rfl) ?_
              refine lv_iload hx hb dL_writesMany_60 (lv_at hl 6 rfl) ?_
              refine lv_imul hx hb dL_writesMany_62 ?_
              refine lv_iadd hx hb dL_writesMany_63 ?_
              refine lv_iload hx hb dL_writesMany_64 (lv_at hl 0 rfl) ?_
              obtain ⟨c39, s40, g41, g42, h⟩ := h
              refine xt_i (vx_runSX (As := [.ref l1, .int l2, .int (l3 + (l10 * l5)), .int x31]) (rest := [.int l9]) ⟨hx, hb, hml, hown, hts⟩ (mt_L_put l hl9 G base h) (vx_cwSW 4 hts gL_writesMany_L_put rfl rfl rfl (by decide +kernel) ⟨Nat.le_of_ble_eq_true rfl, Nat.le_of_ble_eq_true rfl⟩) (xp_S hbase hh hK hX hS) rfl rfl hl.1 rfl (lv_room (Nat.le_of_ble_eq_true rfl)) dL_writesMany_66 ⟨by show _ ≤ MC; omega, by show _ ≤ MS; omega⟩) hS (fun k9 m9 H locs q9 ce h hh hS hc9 hv9 hcl9 => h.elim) (fun r43 m44 H locs h hh hS => ?_)
              obtain ⟨kc45, ekc45⟩ : ∃ z : Nat, z = kc - c39 := ⟨_, rfl⟩
              obtain ⟨ks46, eks46⟩ : ∃ z : Nat, z = ks - s40 := ⟨_, rfl⟩
              replace h := h kc45 ks46 ekc45 eks46
              obtain ⟨cl47, ecl47⟩ : ∃ z : Nat, z = cl9 + c39 := ⟨_, rfl⟩
              obtain ⟨sl48, esl48⟩ : ∃ z : Nat, z = sl9 + s40 := ⟨_, rfl⟩
              refine W_cs ecl47 esl48 ?_
              have hcc : cl47 + kc45 ≤ MC := by omega
              have hss : sl48 + ks46 ≤ MS := by omega
              refine lv_if_lt (tgt := 76) hx hb dL_writesMany_69 (by decide) (fun c49 => ?_) (fun c49 => ?_)
              · replace h := h.1 c49
                refine lv_iconst (v := 0) hx hb dL_writesMany_76 (by decide) ?_
                refine lv_iadd hx hb dL_writesMany_77 ?_
                refine lv_topi (fun x50 ex50 => ?_)
                replace h := h x50 ex50
                refine lv_istore (lv' := [(9, .int x50), (11, .int x31), (0, .ref l0), (1, .ref l1), (2, .int l2), (3, .int l3), (4, .int l4), (5, .int l5), (6, .int l6), (7, .int l7), (8, .int l8), (10, .int l10)]) hx hb dL_writesMany_78 hl (by decide) rfl (fun ls hl => ?_)
                obtain ⟨x51, ex51⟩ : ∃ y : Int32, y = l10 + 1 := ⟨_, rfl⟩
                replace h := h x51 ex51
                refine lv_iinc (v := x51) (lv' := [(10, .int x51), (9, .int x50), (11, .int x31), (0, .ref l0), (1, .ref l1), (2, .int l2), (3, .int l3), (4, .int l4), (5, .int l5), (6, .int l6), (7, .int l7), (8, .int l8)]) hx hb dL_writesMany_80 hl (k := 11) rfl (by rw [ex51]; rfl) (by decide) rfl (fun ls hl => ?_)
                refine lv_goto (tgt := 6) hx hb dL_writesMany_83 (by decide) ?_
                exact ih _ _ _ _ _ _ _ _ _ _ _ _ _ _ _ cl47 sl48 kc45 ks46 hcc hss h hh hS (lv_sub hl [3, 4, 5, 6, 7, 8, 9, 10, 11, 1, 0] rfl)
              · replace h := h.2 c49
                refine lv_iconst (v := 1) hx hb dL_writesMany_72 (by decide) ?_
                refine lv_goto (tgt := 77) hx hb dL_writesMany_73 (by decide) ?_
                refine lv_iadd hx hb dL_writesMany_77 ?_
                refine lv_topi (fun x52 ex52 => ?_)
                replace h := h x52 ex52
                refine lv_istore (lv' := [(9, .int x52), (11, .int x31), (0, .ref l0), (1, .ref l1), (2, .int l2), (3, .int l3), (4, .int l4), (5, .int l5), (6, .int l6), (7, .int l7), (8, .int l8), (10, .int l10)]) hx hb dL_writesMany_78 hl (by decide) rfl (fun ls hl => ?_)
                obtain ⟨x53, ex53⟩ : ∃ y : Int32, y = l10 + 1 := ⟨_, rfl⟩
                replace h := h x53 ex53
                refine lv_iinc (v := x53) (lv' := [(10, .int x53), (9, .int x52), (11, .int x31), (0, .ref l0), (1, .ref l1), (2, .int l2), (3, .int l3), (4, .int l4), (5, .int l5), (6, .int l6), (7, .int l7), (8, .int l8)]) hx hb dL_writesMany_80 hl (k := 11) rfl (by rw [ex53]; rfl) (by decide) rfl (fun ls hl => ?_)
                refine lv_goto (tgt := 6) hx hb dL_writesMany_83 (by decide) ?_
                exact ih _ _ _ _ _ _ _ _ _ _ _ _ _ _ _ cl47 sl48 kc45 ks46 hcc hss h hh hS (lv_sub hl [3, 4, 5, 6, 7, 8, 9, 10, 11, 1, 0] rfl)
        · replace h := h.2 c32
          refine lv_iconst (v := 0) hx hb dL_writesMany_39 (by decide) ?_
          refine lv_goto (tgt := 45) hx hb dL_writesMany_40 (by decide) ?_
          refine lv_icmp_lt (tgt := 76) hx hb dL_writesMany_45 (by decide) (fun c54 => ?_) (fun c54 => ?_)
          · replace h := h.1 c54
            refine lv_iconst (v := 0) hx hb dL_writesMany_76 (by decide) ?_
            refine lv_iadd hx hb dL_writesMany_77 ?_
            refine lv_topi (fun x55 ex55 => ?_)
            replace h := h x55 ex55
            refine lv_istore (lv' := [(9, .int x55), (11, .int x31), (0, .ref l0), (1, .ref l1), (2, .int l2), (3, .int l3), (4, .int l4), (5, .int l5), (6, .int l6), (7, .int l7), (8, .int l8), (10, .int l10)]) hx hb dL_writesMany_78 hl (by decide) rfl (fun ls hl => ?_)
            obtain ⟨x56, ex56⟩ : ∃ y : Int32, y = l10 + 1 := ⟨_, rfl⟩
            replace h := h x56 ex56
            refine lv_iinc (v := x56) (lv' := [(10, .int x56), (9, .int x55), (11, .int x31), (0, .ref l0), (1, .ref l1), (2, .int l2), (3, .int l3), (4, .int l4), (5, .int l5), (6, .int l6), (7, .int l7), (8, .int l8)]) hx hb dL_writesMany_80 hl (k := 11) rfl (by rw [ex56]; rfl) (by decide) rfl (fun ls hl => ?_)
            refine lv_goto (tgt := 6) hx hb dL_writesMany_83 (by decide) ?_
            exact ih _ _ _ _ _ _ _ _ _ _ _ _ _ _ _ cl9 sl9 kc ks hcc hss h hh hS (lv_sub hl [3, 4, 5, 6, 7, 8, 9, 10, 11, 1, 0] rfl)
          · replace h := h.2 c54
            refine lv_iload hx hb dL_writesMany_48 (lv_at hl 0 rfl) ?_
            refine lv_ldc hx hb hown q2 dL_writesMany_50 ?_
            refine lv_icmp_gt (tgt := 76) hx hb dL_writesMany_52 (by decide) (fun c57 => ?_) (fun c57 => ?_)
            · replace h := h.1 c57
              refine lv_iconst (v := 0) hx hb dL_writesMany_76 (by decide) ?_
              refine lv_iadd hx hb dL_writesMany_77 ?_
              refine lv_topi (fun x58 ex58 => ?_)
              replace h := h x58 ex58
              refine lv_istore (lv' := [(9, .int x58), (11, .int x31), (0, .ref l0), (1, .ref l1), (2, .int l2), (3, .int l3), (4, .int l4), (5, .int l5), (6, .int l6), (7, .int l7), (8, .int l8), (10, .int l10)]) hx hb dL_writesMany_78 hl (by decide) rfl (fun ls hl => ?_)
              obtain ⟨x59, ex59⟩ : ∃ y : Int32, y = l10 + 1 := ⟨_, rfl⟩
              replace h := h x59 ex59
              refine lv_iinc (v := x59) (lv' := [(10, .int x59), (9, .int x58), (11, .int x31), (0, .ref l0), (1, .ref l1), (2, .int l2), (3, .int l3), (4, .int l4), (5, .int l5), (6, .int l6), (7, .int l7), (8, .int l8)]) hx hb dL_writesMany_80 hl (k := 11) rfl (by rw [ex59]; rfl) (by decide) rfl (fun ls hl => ?_)
              refine lv_goto (tgt := 6) hx hb dL_writesMany_83 (by decide) ?_
              exact ih _ _ _ _ _ _ _ _ _ _ _ _ _ _ _ cl9 sl9 kc ks hcc hss h hh hS (lv_sub hl [3, 4, 5, 6, 7, 8, 9, 10, 11, 1, 0] rfl)
            · replace h := h.2 c57
              refine lv_aload_n hx hb dL_writesMany_55 rfl (lv_at hl 2 rfl) ?_
              refine lv_iload_n hx hb dL_writesMany_56 rfl (lv_at hl 3 rfl) ?_
              refine lv_iload_n hx hb dL_writesMany_57 rfl (lv_at hl 4 rfl) ?_
              refine lv_iload hx hb dL_writesMany_58 (lv_at hl 11 rfl) ?_
              refine lv_iload hx hb dL_writesMany_60 (lv_at hl 6 rfl) ?_
              refine lv_imul hx hb dL_writesMany_62 ?_
              refine lv_iadd hx hb dL_writesMany_63 ?_
              refine lv_iload hx hb dL_writesMany_64 (lv_at hl 0 rfl) ?_
              obtain ⟨c60, s61, g62, g63, h⟩ := h
              refine xt_i (vx_runSX (As := [.ref l1, .int l2, .int (l3 + (l10 * l5)), .int x31]) (rest := [.int l9]) ⟨hx, hb, hml, hown, hts⟩ (mt_L_put l hl9 G base h) (vx_cwSW 4 hts gL_writesMany_L_put rfl rfl rfl (by decide +kernel) ⟨Nat.le_of_ble_eq_true rfl, Nat.le_of_ble_eq_true rfl⟩) (xp_S hbase hh hK hX hS) rfl rfl hl.1 rfl (lv_room (Nat.le_of_ble_eq_true rfl)) dL_writesMany_66 ⟨by show _ ≤ MC; omega, by show _ ≤ MS; omega⟩) hS (fun k9 m9 H locs q9 ce h hh hS hc9 hv9 hcl9 => h.elim) (fun r64 m65 H locs h hh hS => ?_)
              obtain ⟨kc66, ekc66⟩ : ∃ z : Nat, z = kc - c60 := ⟨_, rfl⟩
              obtain ⟨ks67, eks67⟩ : ∃ z : Nat, z = ks - s61 := ⟨_, rfl⟩
              replace h := h kc66 ks67 ekc66 eks67
              obtain ⟨cl68, ecl68⟩ : ∃ z : Nat, z = cl9 + c60 := ⟨_, rfl⟩
              obtain ⟨sl69, esl69⟩ : ∃ z : Nat, z = sl9 + s61 := ⟨_, rfl⟩
              refine W_cs ecl68 esl69 ?_
              have hcc : cl68 + kc66 ≤ MC := by omega
              have hss : sl69 + ks67 ≤ MS := by omega
              refine lv_if_lt (tgt := 76) hx hb dL_writesMany_69 (by decide) (fun c70 => ?_) (fun c70 => ?_)
              · replace h := h.1 c70
                refine lv_iconst (v := 0) hx hb dL_writesMany_76 (by decide) ?_
                refine lv_iadd hx hb dL_writesMany_77 ?_
                refine lv_topi (fun x71 ex71 => ?_)
                replace h := h x71 ex71
                refine lv_istore (lv' := [(9, .int x71), (11, .int x31), (0, .ref l0), (1, .ref l1), (2, .int l2), (3, .int l3), (4, .int l4), (5, .int l5), (6, .int l6), (7, .int l7), (8, .int l8), (10, .int l10)]) hx hb dL_writesMany_78 hl (by decide) rfl (fun ls hl => ?_)
                obtain ⟨x72, ex72⟩ : ∃ y : Int32, y = l10 + 1 := ⟨_, rfl⟩
                replace h := h x72 ex72
                refine lv_iinc (v := x72) (lv' := [(10, .int x72), (9, .int x71), (11, .int x31), (0, .ref l0), (1, .ref l1), (2, .int l2), (3, .int l3), (4, .int l4), (5, .int l5), (6, .int l6), (7, .int l7), (8, .int l8)]) hx hb dL_writesMany_80 hl (k := 11) rfl (by rw [ex72]; rfl) (by decide) rfl (fun ls hl => ?_)
                refine lv_goto (tgt := 6) hx hb dL_writesMany_83 (by decide) ?_
                exact ih _ _ _ _ _ _ _ _ _ _ _ _ _ _ _ cl68 sl69 kc66 ks67 hcc hss h hh hS (lv_sub hl [3, 4, 5, 6, 7, 8, 9, 10, 11, 1, 0] rfl)
              · replace h := h.2 c70
                refine lv_iconst (v := 1) hx hb dL_writesMany_72 (by decide) ?_
                refine lv_goto (tgt := 77) hx hb dL_writesMany_73 (by decide) ?_
                refine lv_iadd hx hb dL_writesMany_77 ?_
                refine lv_topi (fun x73 ex73 => ?_)
                replace h := h x73 ex73
                refine lv_istore (lv' := [(9, .int x73), (11, .int x31), (0, .ref l0), (1, .ref l1), (2, .int l2), (3, .int l3), (4, .int l4), (5, .int l5), (6, .int l6), (7, .int l7), (8, .int l8), (10, .int l10)]) hx hb dL_writesMany_78 hl (by decide) rfl (fun ls hl => ?_)
                obtain ⟨x74, ex74⟩ : ∃ y : Int32, y = l10 + 1 := ⟨_, rfl⟩
                replace h := h x74 ex74
                refine lv_iinc (v := x74) (lv' := [(10, .int x74), (9, .int x73), (11, .int x31), (0, .ref l0), (1, .ref l1), (2, .int l2), (3, .int l3), (4, .int l4), (5, .int l5), (6, .int l6), (7, .int l7), (8, .int l8)]) hx hb dL_writesMany_80 hl (k := 11) rfl (by rw [ex74]; rfl) (by decide) rfl (fun ls hl => ?_)
                refine lv_goto (tgt := 6) hx hb dL_writesMany_83 (by decide) ?_
                exact ih _ _ _ _ _ _ _ _ _ _ _ _ _ _ _ cl68 sl69 kc66 ks67 hcc hss h hh hS (lv_sub hl [3, 4, 5, 6, 7, 8, 9, 10, 11, 1, 0] rfl)

set_option maxHeartbeats 4000000 in
set_option maxRecDepth 100000 in
theorem mt_L_writesMany (l : Launch) (hl9 : l.stackTraces = false) (G : GG) (base : Nat) {p1 : Nat} {p2 : Nat} {p3 : Int32} {p4 : Int32} {p5 : Int32} {p6 : Int32} {p7 : Int32} {p8 : Int32} {p9 : Int32} {m0 : MM} {Q : Int32 → MM → Prop} {kc ks : Nat} (h : wp_L_writesMany p1 p2 p3 p4 p5 p6 p7 p8 p9 m0 Q kc ks) : Met l yL_writesMany wsL_writesMany ({ frames := 9, cells := kc, slots := ks, locals := 235 }) (va_Pc [.ref p1, .ref p2, .int p3, .int p4, .int p5, .int p6, .int p7, .int p8, .int p9] (SP G base m0)) (va_Qi Q (HB G base) (xA base)) kc ks (xA base) := by
  refine Met.ofW (cc := cL_writesMany) (maxL := 12) (ret := (some .boolean)) (by decide) rfl ?_
  intro p e s m args below meth c s₁ B hml hv
  obtain ⟨rfl, hbase, hh, hK, hX⟩ := hv
  have C0 : BC p s m _ meth c G base RL cL_writesMany 12 (some .boolean) wsL_writesMany := ⟨B.exec, B.bytes, B.returns, hml, findClass_of_methodNamed B.named, atoms_spec (ws := wsL_writesMany) B.pre, B.notSynchronized, hK, hbase, hX⟩
  obtain ⟨hx, hb, hr, -, hown, hts, hlocks, -, -, -⟩ := id C0
  have hS : va_S (xA base) s.heap s.heap [] := va_S.rf
  have hl := lv_entry ([.ref p1, .ref p2, .int p3, .int p4, .int p5, .int p6, .int p7, .int p8, .int p9]) (n := 12) (Nat.le_of_ble_eq_true rfl)
  rw [lg_entry_eq]
  generalize (lg_sl ([.ref p1, .ref p2, .int p3, .int p4, .int p5, .int p6, .int p7, .int p8, .int p9]) ++ List.replicate (12 - (lg_sl ([.ref p1, .ref p2, .int p3, .int p4, .int p5, .int p6, .int p7, .int p8, .int p9])).length) Slot.unset).toArray = ls at hl ⊢
  have hl : lv_has ls 12 [(0, .ref p1), (1, .ref p2), (2, .int p3), (3, .int p4), (4, .int p5), (5, .int p6), (6, .int p7), (7, .int p8), (8, .int p9)] := hl
  unfold wp_L_writesMany at h
  have hcc : 0 + kc ≤ kc := by omega
  have hss : 0 + ks ≤ ks := by omega
  refine lv_iconst (v := 0) hx hb dL_writesMany_0 (by decide) ?_
  refine lv_topi (fun x1 ex1 => ?_)
  replace h := h x1 ex1
  refine lv_istore (lv' := [(9, .int x1), (0, .ref p1), (1, .ref p2), (2, .int p3), (3, .int p4), (4, .int p5), (5, .int p6), (6, .int p7), (7, .int p8), (8, .int p9)]) hx hb dL_writesMany_1 hl (by decide) rfl (fun ls hl => ?_)
  refine lv_iconst (v := 0) hx hb dL_writesMany_3 (by decide) ?_
  refine lv_topi (fun x2 ex2 => ?_)
  replace h := h x2 ex2
  refine lv_istore (lv' := [(10, .int x2), (9, .int x1), (0, .ref p1), (1, .ref p2), (2, .int p3), (3, .int p4), (4, .int p5), (5, .int p6), (6, .int p7), (7, .int p8), (8, .int p9)]) hx hb dL_writesMany_4 hl (by decide) rfl (fun ls hl => ?_)
  obtain ⟨n9, h⟩ := h
  exact bk_L_writesMany_6 C0 hl9  n9 _ _ _ _ _ _ _ _ _ _ _ _ _ _ _ 0 0 kc ks hcc hss h hh hS (lv_sub hl [2, 3, 4, 5, 6, 7, 8, 9, 10, 1, 0] rfl)

set_option maxHeartbeats 4000000 in
set_option maxRecDepth 100000 in
theorem bk_L_tale_73 {p : Program} {l : Launch} {e : Env} {s : State} {m : MethodId} {args : Array Value} {below : List Frame} {meth : Method} {c : Code} {G : GG} {base : Nat} (C0 : BC p s m args meth c G base RL cL_tale 7 (some .long) wsL_tale) (hl9 : l.stackTraces = false) {Q : Int64 → MM → Prop} {K : Nat → Int32 → Int64 → Int32 → MM → Prop} (hK9 : ∀ (l0 : Nat) (l1 : Int32) (l2 : Int64) (l4 : Int32) (m0 : MM) (H : Heap) (locs : List Loc) (ls : Array Slot), K l0 l1 l2 l4 m0 → hp G (xA base) m0 H → va_S (xA base) s.heap H locs → lv_has ls 7 [(0, .ref l0), (1, .int l1), (2, .long l2), (4, .int l4)] → W p l e ({ frames := 11, cells := 0, slots := 0, locals := 212 } : Room) s m args below meth c H locs 0 0 (MQ below (va_Ql Q (HB G base) (xA base)) args s 0 0 (xA base)) (F0 m 64 ls [])) : ∀ (n : Nat) (l0 : Nat) (l1 : Int32) (l2 : Int64) (l4 : Int32) (l5 : Int32) (m0 : MM) (H : Heap) (locs : List Loc) (ls : Array Slot), wp_L_tale_73 Q K n l0 l1 l2 l4 l5 m0 → hp G (xA base) m0 H → va_S (xA base) s.heap H locs → lv_has ls 7 [(0, .ref l0), (1, .int l1), (2, .long l2), (4, .int l4), (5, .int l5)] → W p l e ({ frames := 11, cells := 0, slots := 0, locals := 212 } : Room) s m args below meth c H locs 0 0 (MQ below (va_Ql Q (HB G base) (xA base)) args s 0 0 (xA base)) (F0 m 73 ls []) := by
  obtain ⟨hx, hb, hr, hml, hown, hts, hlocks, hK, hbase, hX⟩ := id C0
  intro n
  induction n with
  | zero =>
    intro l0 l1 l2 l4 l5 m0 H locs ls h
    unfold wp_L_tale_73 at h
    exact h.elim
  | succ n ih =>
    intro l0 l1 l2 l4 l5 m0 H locs ls h hh hS hl
    unfold wp_L_tale_73 at h
    have q1 : (Cond.constantLong RL 43 (31)).before _ s = true := hts _ (List.mem_cons_of_mem _ (List.mem_append_left _ (List.mem_append_left _ (List.mem_append_left _ (List.mem_append_left _ (List.mem_append_left _ (List.mem_append_left _ (List.mem_append_left _ (List.mem_append_left _ (List.mem_append_left _ (List.mem_of_getElem? (i := 0) rfl)))))))))))
    refine lv_iload hx hb dL_tale_73 (lv_at hl 4 rfl) ?_
    refine lv_aload_n hx hb dL_tale_75 rfl (lv_at hl 0 rfl) ?_
    refine lv_iload_n hx hb dL_tale_76 rfl (lv_at hl 1 rfl) ?_
    refine lv_iload hx hb dL_tale_77 (lv_at hl 3 rfl) ?_
    obtain ⟨g13, h⟩ := h
    refine xc_i (va_runV (As := [.int l1, .int l4]) (rest := [.int l5]) ⟨hx, hb, hml, hown, hts⟩ (mtq_X5_rows l G base h) (cwV 2 hts gL_tale_X5_rows rfl rfl rfl (by decide +kernel) ⟨Nat.le_of_ble_eq_true rfl, Nat.le_of_ble_eq_true rfl⟩) (xp_V hbase hh hK hX hS (ci := 5) g13 (by decide) rfl) rfl rfl hl.1 rfl (lv_room (Nat.le_of_ble_eq_true rfl)) dL_tale_79 ⟨Nat.le_of_ble_eq_true rfl, Nat.le_of_ble_eq_true rfl⟩) hS (fun r14 m15 H locs h hh hS => ?_)
    refine lv_icmp_ge (tgt := 173) hx hb dL_tale_82 (by decide) (fun c16 => ?_) (fun c16 => ?_)
    · replace h := h.1 c16
      obtain ⟨x17, ex17⟩ : ∃ y : Int32, y = l4 + 1 := ⟨_, rfl⟩
      replace h := h x17 ex17
      refine lv_iinc (v := x17) (lv' := [(4, .int x17), (0, .ref l0), (1, .int l1), (2, .long l2), (5, .int l5)]) hx hb dL_tale_173 hl (k := 3) rfl (by rw [ex17]; rfl) (by decide) rfl (fun ls hl => ?_)
      refine lv_goto (tgt := 64) hx hb dL_tale_176 (by decide) ?_
      exact hK9 _ _ _ _ _ _ _ _ h hh hS (lv_sub hl [1, 2, 3, 0] rfl)
    · replace h := h.2 c16
      refine lv_aload_n hx hb dL_tale_85 rfl (lv_at hl 0 rfl) ?_
      refine lv_iload_n hx hb dL_tale_86 rfl (lv_at hl 1 rfl) ?_
      refine lv_iload hx hb dL_tale_87 (lv_at hl 3 rfl) ?_
      refine lv_iload hx hb dL_tale_89 (lv_at hl 4 rfl) ?_
      obtain ⟨g18, h⟩ := h
      refine xc_i (va_runV (As := [.int l1, .int l4, .int l5]) (rest := []) ⟨hx, hb, hml, hown, hts⟩ (mtq_X5_timeOf l G base h) (cwV 3 hts gL_tale_X5_timeOf rfl rfl rfl (by decide +kernel) ⟨Nat.le_of_ble_eq_true rfl, Nat.le_of_ble_eq_true rfl⟩) (xp_V hbase hh hK hX hS (ci := 5) g18 (by decide) rfl) rfl rfl hl.1 rfl (lv_room (Nat.le_of_ble_eq_true rfl)) dL_tale_91 ⟨Nat.le_of_ble_eq_true rfl, Nat.le_of_ble_eq_true rfl⟩) hS (fun r19 m20 H locs h hh hS => ?_)
      refine lv_istore (lv' := [(6, .int r19), (0, .ref l0), (1, .int l1), (2, .long l2), (4, .int l4), (5, .int l5)]) hx hb dL_tale_94 hl (by decide) rfl (fun ls hl => ?_)
      refine lv_ldc2 hx hb hown q1 dL_tale_96 ?_
      refine lv_ldc2 hx hb hown q1 dL_tale_99 ?_
      refine lv_ldc2 hx hb hown q1 dL_tale_102 ?_
      refine lv_lload_n hx hb dL_tale_105 rfl (lv_at hl 3 rfl) ?_
      refine lv_lmul hx hb dL_tale_106 ?_
      refine lv_iload hx hb dL_tale_107 (lv_at hl 0 rfl) ?_
      refine lv_i2l hx hb dL_tale_109 rfl ?_
      refine lv_ladd hx hb dL_tale_110 ?_
      refine lv_lmul hx hb dL_tale_111 ?_
      refine lv_aload_n hx hb dL_tale_112 rfl (lv_at hl 1 rfl) ?_
      refine lv_iload_n hx hb dL_tale_113 rfl (lv_at hl 2 rfl) ?_
      refine lv_iload hx hb dL_tale_114 (lv_at hl 4 rfl) ?_
      refine lv_iload hx hb dL_tale_116 (lv_at hl 0 rfl) ?_
      obtain ⟨g21, h⟩ := h
      refine xc_l (va_runV (As := [.int l1, .int l4, .int r19]) (rest := [.long ((31 : Int64) * (((31 : Int64) * l2) + r19.toInt64)), .long (31 : Int64)]) ⟨hx, hb, hml, hown, hts⟩ (mtq_X5_sum l G base h) (cwV 3 hts gL_tale_X5_sum rfl rfl rfl (by decide +kernel) ⟨Nat.le_of_ble_eq_true rfl, Nat.le_of_ble_eq_true rfl⟩) (xp_V hbase hh hK hX hS (ci := 5) g21 (by decide) rfl) rfl rfl hl.1 rfl (lv_room (Nat.le_of_ble_eq_true rfl)) dL_tale_118 ⟨Nat.le_of_ble_eq_true rfl, Nat.le_of_ble_eq_true rfl⟩) hS (fun r22 m23 H locs h hh hS => ?_)
      refine lv_ladd hx hb dL_tale_121 ?_
      refine lv_lmul hx hb dL_tale_122 ?_
      refine lv_aload_n hx hb dL_tale_123 rfl (lv_at hl 1 rfl) ?_
      refine lv_iload_n hx hb dL_tale_124 rfl (lv_at hl 2 rfl) ?_
      refine lv_iload hx hb dL_tale_125 (lv_at hl 4 rfl) ?_
      refine lv_iload hx hb dL_tale_127 (lv_at hl 0 rfl) ?_
      obtain ⟨g24, h⟩ := h
      refine xc_i (va_runV (As := [.int l1, .int l4, .int r19]) (rest := [.long ((31 : Int64) * (((31 : Int64) * (((31 : Int64) * l2) + r19.toInt64)) + r22))]) ⟨hx, hb, hml, hown, hts⟩ (mtq_X5_count l G base h) (cwV 3 hts gL_tale_X5_count rfl rfl rfl (by decide +kernel) ⟨Nat.le_of_ble_eq_true rfl, Nat.le_of_ble_eq_true rfl⟩) (xp_V hbase hh hK hX hS (ci := 5) g24 (by decide) rfl) rfl rfl hl.1 rfl (lv_room (Nat.le_of_ble_eq_true rfl)) dL_tale_129 ⟨Nat.le_of_ble_eq_true rfl, Nat.le_of_ble_eq_true rfl⟩) hS (fun r25 m26 H locs h hh hS => ?_)
      refine lv_i2l hx hb dL_tale_132 rfl ?_
      refine lv_ladd hx hb dL_tale_133 ?_
      refine lv_topl (fun x27 ex27 => ?_)
      replace h := h x27 ex27
      refine lv_lstore_n (lv' := [(2, .long x27), (6, .int r19), (0, .ref l0), (1, .int l1), (4, .int l4), (5, .int l5)]) hx hb dL_tale_134 rfl hl (by decide) rfl (fun ls hl => ?_)
      refine lv_ldc2 hx hb hown q1 dL_tale_135 ?_
      refine lv_ldc2 hx hb hown q1 dL_tale_138 ?_
      refine lv_lload_n hx hb dL_tale_141 rfl (lv_at hl 0 rfl) ?_
      refine lv_lmul hx hb dL_tale_142 ?_
      refine lv_aload_n hx hb dL_tale_143 rfl (lv_at hl 2 rfl) ?_
      refine lv_iload_n hx hb dL_tale_144 rfl (lv_at hl 3 rfl) ?_
      refine lv_iload hx hb dL_tale_145 (lv_at hl 4 rfl) ?_
      refine lv_iload hx hb dL_tale_147 (lv_at hl 1 rfl) ?_
      obtain ⟨g28, h⟩ := h
      refine xc_i (va_runV (As := [.int l1, .int l4, .int r19]) (rest := [.long ((31 : Int64) * x27), .long (31 : Int64)]) ⟨hx, hb, hml, hown, hts⟩ (mtq_X5_first l G base h) (cwV 3 hts gL_tale_X5_first rfl rfl rfl (by decide +kernel) ⟨Nat.le_of_ble_eq_true rfl, Nat.le_of_ble_eq_true rfl⟩) (xp_V hbase hh hK hX hS (ci := 5) g28 (by decide) rfl) rfl rfl hl.1 rfl (lv_room (Nat.le_of_ble_eq_true rfl)) dL_tale_149 ⟨Nat.le_of_ble_eq_true rfl, Nat.le_of_ble_eq_true rfl⟩) hS (fun r29 m30 H locs h hh hS => ?_)
      refine lv_i2l hx hb dL_tale_152 rfl ?_
      refine lv_ladd hx hb dL_tale_153 ?_
      refine lv_lmul hx hb dL_tale_154 ?_
      refine lv_aload_n hx hb dL_tale_155 rfl (lv_at hl 2 rfl) ?_
      refine lv_iload_n hx hb dL_tale_156 rfl (lv_at hl 3 rfl) ?_
      refine lv_iload hx hb dL_tale_157 (lv_at hl 4 rfl) ?_
      refine lv_iload hx hb dL_tale_159 (lv_at hl 1 rfl) ?_
      obtain ⟨g31, h⟩ := h
      refine xc_i (va_runV (As := [.int l1, .int l4, .int r19]) (rest := [.long ((31 : Int64) * (((31 : Int64) * x27) + r29.toInt64))]) ⟨hx, hb, hml, hown, hts⟩ (mtq_X5_last l G base h) (cwV 3 hts gL_tale_X5_last rfl rfl rfl (by decide +kernel) ⟨Nat.le_of_ble_eq_true rfl, Nat.le_of_ble_eq_true rfl⟩) (xp_V hbase hh hK hX hS (ci := 5) g31 (by decide) rfl) rfl rfl hl.1 rfl (lv_room (Nat.le_of_ble_eq_true rfl)) dL_tale_161 ⟨Nat.le_of_ble_eq_true rfl, Nat.le_of_ble_eq_true rfl⟩) hS (fun r32 m33 H locs h hh hS => ?_)
      refine lv_i2l hx hb dL_tale_164 rfl ?_
      refine lv_ladd hx hb dL_tale_165 ?_
      refine lv_topl (fun x34 ex34 => ?_)
      replace h := h x34 ex34
      refine lv_lstore_n (lv' := [(2, .long x34), (6, .int r19), (0, .ref l0), (1, .int l1), (4, .int l4), (5, .int l5)]) hx hb dL_tale_166 rfl hl (by decide) rfl (fun ls hl => ?_)
      obtain ⟨x35, ex35⟩ : ∃ y : Int32, y = l5 + 1 := ⟨_, rfl⟩
      replace h := h x35 ex35
      refine lv_iinc (v := x35) (lv' := [(5, .int x35), (2, .long x34), (6, .int r19), (0, .ref l0), (1, .int l1), (4, .int l4)]) hx hb dL_tale_167 hl (k := 5) rfl (by rw [ex35]; rfl) (by decide) rfl (fun ls hl => ?_)
      refine lv_goto (tgt := 73) hx hb dL_tale_170 (by decide) ?_
      exact ih _ _ _ _ _ _ _ _ _ h hh hS (lv_sub hl [3, 4, 1, 5, 0] rfl)

set_option maxHeartbeats 4000000 in
set_option maxRecDepth 100000 in
theorem bk_L_tale_64 {p : Program} {l : Launch} {e : Env} {s : State} {m : MethodId} {args : Array Value} {below : List Frame} {meth : Method} {c : Code} {G : GG} {base : Nat} (C0 : BC p s m args meth c G base RL cL_tale 7 (some .long) wsL_tale) (hl9 : l.stackTraces = false) {Q : Int64 → MM → Prop} : ∀ (n : Nat) (l0 : Nat) (l1 : Int32) (l2 : Int64) (l4 : Int32) (m0 : MM) (H : Heap) (locs : List Loc) (ls : Array Slot), wp_L_tale_64 Q n l0 l1 l2 l4 m0 → hp G (xA base) m0 H → va_S (xA base) s.heap H locs → lv_has ls 7 [(0, .ref l0), (1, .int l1), (2, .long l2), (4, .int l4)] → W p l e ({ frames := 11, cells := 0, slots := 0, locals := 212 } : Room) s m args below meth c H locs 0 0 (MQ below (va_Ql Q (HB G base) (xA base)) args s 0 0 (xA base)) (F0 m 64 ls []) := by
  obtain ⟨hx, hb, hr, hml, hown, hts, hlocks, hK, hbase, hX⟩ := id C0
  intro n
  induction n with
  | zero =>
    intro l0 l1 l2 l4 m0 H locs ls h
    unfold wp_L_tale_64 at h
    exact h.elim
  | succ n ih =>
    intro l0 l1 l2 l4 m0 H locs ls h hh hS hl
    unfold wp_L_tale_64 at h
    refine lv_iload hx hb dL_tale_64 (lv_at hl 3 rfl) ?_
    refine lv_iconst (v := 4) hx hb dL_tale_66 (by decide) ?_
    refine lv_icmp_ge (tgt := 179) hx hb dL_tale_67 (by decide) (fun c11 => ?_) (fun c11 => ?_)
    · replace h := h.1 c11
      refine lv_lload_n hx hb dL_tale_179 rfl (lv_at hl 2 rfl) ?_
      exact (xe_l hx hb hr hlocks hbase hh hK hX hS h (Nat.le_of_ble_eq_true rfl) (Nat.le_of_ble_eq_true rfl) dL_tale_180)
    · replace h := h.2 c11
      refine lv_iconst (v := 0) hx hb dL_tale_70 (by decide) ?_
      refine lv_topi (fun x12 ex12 => ?_)
      replace h := h x12 ex12
      refine lv_istore (lv' := [(5, .int x12), (0, .ref l0), (1, .int l1), (2, .long l2), (4, .int l4)]) hx hb dL_tale_71 hl (by decide) rfl (fun ls hl => ?_)
      obtain ⟨n9, h⟩ := h
      exact bk_L_tale_73 C0 hl9  (K := wp_L_tale_64 Q n) ih n9 _ _ _ _ _ _ _ _ _ h hh hS (lv_sub hl [1, 2, 3, 4, 0] rfl)

set_option maxHeartbeats 4000000 in
set_option maxRecDepth 100000 in
theorem bk_L_tale_11 {p : Program} {l : Launch} {e : Env} {s : State} {m : MethodId} {args : Array Value} {below : List Frame} {meth : Method} {c : Code} {G : GG} {base : Nat} (C0 : BC p s m args meth c G base RL cL_tale 7 (some .long) wsL_tale) (hl9 : l.stackTraces = false) {Q : Int64 → MM → Prop} : ∀ (n : Nat) (l0 : Nat) (l1 : Int32) (l2 : Int64) (l4 : Int32) (m0 : MM) (H : Heap) (locs : List Loc) (ls : Array Slot), wp_L_tale_11 Q n l0 l1 l2 l4 m0 → hp G (xA base) m0 H → va_S (xA base) s.heap H locs → lv_has ls 7 [(0, .ref l0), (1, .int l1), (2, .long l2), (4, .int l4)] → W p l e ({ frames := 11, cells := 0, slots := 0, locals := 212 } : Room) s m args below meth c H locs 0 0 (MQ below (va_Ql Q (HB G base) (xA base)) args s 0 0 (xA base)) (F0 m 11 ls []) := by
  obtain ⟨hx, hb, hr, hml, hown, hts, hlocks, hK, hbase, hX⟩ := id C0
  intro n
  induction n with
  | zero =>
    intro l0 l1 l2 l4 m0 H locs ls h
    unfold wp_L_tale_11 at h
    exact h.elim
  | succ n ih =>
    intro l0 l1 l2 l4 m0 H locs ls h hh hS hl
    unfold wp_L_tale_11 at h
    have q1 : (Cond.constantLong RL 43 (31)).before _ s = true := hts _ (List.mem_cons_of_mem _ (List.mem_append_left _ (List.mem_append_left _ (List.mem_append_left _ (List.mem_append_left _ (List.mem_append_left _ (List.mem_append_left _ (List.mem_append_left _ (List.mem_append_left _ (List.mem_append_left _ (List.mem_of_getElem? (i := 0) rfl)))))))))))
    refine lv_iload hx hb dL_tale_11 (lv_at hl 3 rfl) ?_
    refine lv_aload_n hx hb dL_tale_13 rfl (lv_at hl 0 rfl) ?_
    refine lv_iload_n hx hb dL_tale_14 rfl (lv_at hl 1 rfl) ?_
    refine lv_iconst (v := 0) hx hb dL_tale_15 (by decide) ?_
    obtain ⟨g6, h⟩ := h
    refine xc_i (va_runV (As := [.int l1, .int (0 : Int32)]) (rest := [.int l4]) ⟨hx, hb, hml, hown, hts⟩ (mtq_X5_rows l G base h) (cwV 2 hts gL_tale_X5_rows rfl rfl rfl (by decide +kernel) ⟨Nat.le_of_ble_eq_true rfl, Nat.le_of_ble_eq_true rfl⟩) (xp_V hbase hh hK hX hS (ci := 5) g6 (by decide) rfl) rfl rfl hl.1 rfl (lv_room (Nat.le_of_ble_eq_true rfl)) dL_tale_16 ⟨Nat.le_of_ble_eq_true rfl, Nat.le_of_ble_eq_true rfl⟩) hS (fun r7 m8 H locs h hh hS => ?_)
    refine lv_icmp_ge (tgt := 61) hx hb dL_tale_19 (by decide) (fun c9 => ?_) (fun c9 => ?_)
    · replace h := h.1 c9
      refine lv_iconst (v := 1) hx hb dL_tale_61 (by decide) ?_
      refine lv_topi (fun x10 ex10 => ?_)
      replace h := h x10 ex10
      refine lv_istore (lv' := [(4, .int x10), (0, .ref l0), (1, .int l1), (2, .long l2)]) hx hb dL_tale_62 hl (by decide) rfl (fun ls hl => ?_)
      obtain ⟨n9, h⟩ := h
      exact bk_L_tale_64 C0 hl9  n9 _ _ _ _ _ _ _ _ h hh hS (lv_sub hl [1, 2, 3, 0] rfl)
    · replace h := h.2 c9
      refine lv_aload_n hx hb dL_tale_22 rfl (lv_at hl 0 rfl) ?_
      refine lv_iload_n hx hb dL_tale_23 rfl (lv_at hl 1 rfl) ?_
      refine lv_iconst (v := 0) hx hb dL_tale_24 (by decide) ?_
      refine lv_iload hx hb dL_tale_25 (lv_at hl 3 rfl) ?_
      obtain ⟨g36, h⟩ := h
      refine xc_i (va_runV (As := [.int l1, .int (0 : Int32), .int l4]) (rest := []) ⟨hx, hb, hml, hown, hts⟩ (mtq_X5_timeOf l G base h) (cwV 3 hts gL_tale_X5_timeOf rfl rfl rfl (by decide +kernel) ⟨Nat.le_of_ble_eq_true rfl, Nat.le_of_ble_eq_true rfl⟩) (xp_V hbase hh hK hX hS (ci := 5) g36 (by decide) rfl) rfl rfl hl.1 rfl (lv_room (Nat.le_of_ble_eq_true rfl)) dL_tale_27 ⟨Nat.le_of_ble_eq_true rfl, Nat.le_of_ble_eq_true rfl⟩) hS (fun r37 m38 H locs h hh hS => ?_)
      refine lv_istore (lv' := [(5, .int r37), (0, .ref l0), (1, .int l1), (2, .long l2), (4, .int l4)]) hx hb dL_tale_30 hl (by decide) rfl (fun ls hl => ?_)
      refine lv_ldc2 hx hb hown q1 dL_tale_32 ?_
      refine lv_ldc2 hx hb hown q1 dL_tale_35 ?_
      refine lv_lload_n hx hb dL_tale_38 rfl (lv_at hl 3 rfl) ?_
      refine lv_lmul hx hb dL_tale_39 ?_
      refine lv_iload hx hb dL_tale_40 (lv_at hl 0 rfl) ?_
      refine lv_i2l hx hb dL_tale_42 rfl ?_
      refine lv_ladd hx hb dL_tale_43 ?_
      refine lv_lmul hx hb dL_tale_44 ?_
      refine lv_aload_n hx hb dL_tale_45 rfl (lv_at hl 1 rfl) ?_
      refine lv_iload_n hx hb dL_tale_46 rfl (lv_at hl 2 rfl) ?_
      refine lv_iload hx hb dL_tale_47 (lv_at hl 0 rfl) ?_
      obtain ⟨g39, h⟩ := h
      refine xc_i (va_runV (As := [.int l1, .int r37]) (rest := [.long ((31 : Int64) * (((31 : Int64) * l2) + r37.toInt64))]) ⟨hx, hb, hml, hown, hts⟩ (mtq_X5_valueAt l G base h) (cwV 2 hts gL_tale_X5_valueAt rfl rfl rfl (by decide +kernel) ⟨Nat.le_of_ble_eq_true rfl, Nat.le_of_ble_eq_true rfl⟩) (xp_V hbase hh hK hX hS (ci := 5) g39 (by decide) rfl) rfl rfl hl.1 rfl (lv_room (Nat.le_of_ble_eq_true rfl)) dL_tale_49 ⟨Nat.le_of_ble_eq_true rfl, Nat.le_of_ble_eq_true rfl⟩) hS (fun r40 m41 H locs h hh hS => ?_)
      refine lv_i2l hx hb dL_tale_52 rfl ?_
      refine lv_ladd hx hb dL_tale_53 ?_
      refine lv_topl (fun x42 ex42 => ?_)
      replace h := h x42 ex42
      refine lv_lstore_n (lv' := [(2, .long x42), (5, .int r37), (0, .ref l0), (1, .int l1), (4, .int l4)]) hx hb dL_tale_54 rfl hl (by decide) rfl (fun ls hl => ?_)
      obtain ⟨x43, ex43⟩ : ∃ y : Int32, y = l4 + 1 := ⟨_, rfl⟩
      replace h := h x43 ex43
      refine lv_iinc (v := x43) (lv' := [(4, .int x43), (2, .long x42), (5, .int r37), (0, .ref l0), (1, .int l1)]) hx hb dL_tale_55 hl (k := 4) rfl (by rw [ex43]; rfl) (by decide) rfl (fun ls hl => ?_)
      refine lv_goto (tgt := 11) hx hb dL_tale_58 (by decide) ?_
      exact ih _ _ _ _ _ _ _ _ h hh hS (lv_sub hl [3, 4, 1, 0] rfl)

set_option maxHeartbeats 4000000 in
set_option maxRecDepth 100000 in
theorem mt_L_tale (l : Launch) (hl9 : l.stackTraces = false) (G : GG) (base : Nat) {p1 : Nat} {p2 : Int32} {m0 : MM} {Q : Int64 → MM → Prop} (h : wp_L_tale p1 p2 m0 Q) : Met l yL_tale wsL_tale ({ frames := 11, cells := 0, slots := 0, locals := 212 }) (va_Pc [.ref p1, .int p2] (SP G base m0)) (va_Ql Q (HB G base) (xA base)) 0 0 (xA base) := by
  refine Met.ofW (cc := cL_tale) (maxL := 7) (ret := (some .long)) (by decide) rfl ?_
  intro p e s m args below meth c s₁ B hml hv
  obtain ⟨rfl, hbase, hh, hK, hX⟩ := hv
  have C0 : BC p s m _ meth c G base RL cL_tale 7 (some .long) wsL_tale := ⟨B.exec, B.bytes, B.returns, hml, findClass_of_methodNamed B.named, atoms_spec (ws := wsL_tale) B.pre, B.notSynchronized, hK, hbase, hX⟩
  obtain ⟨hx, hb, hr, -, hown, hts, hlocks, -, -, -⟩ := id C0
  have hS : va_S (xA base) s.heap s.heap [] := va_S.rf
  have hl := lv_entry ([.ref p1, .int p2]) (n := 7) (Nat.le_of_ble_eq_true rfl)
  rw [lg_entry_eq]
  generalize (lg_sl ([.ref p1, .int p2]) ++ List.replicate (7 - (lg_sl ([.ref p1, .int p2])).length) Slot.unset).toArray = ls at hl ⊢
  have hl : lv_has ls 7 [(0, .ref p1), (1, .int p2)] := hl
  unfold wp_L_tale at h
  refine lv_aload_n hx hb dL_tale_0 rfl (lv_at hl 0 rfl) ?_
  refine lv_iload_n hx hb dL_tale_1 rfl (lv_at hl 1 rfl) ?_
  refine lv_iconst (v := 0) hx hb dL_tale_2 (by decide) ?_
  obtain ⟨g1, h⟩ := h
  refine xc_i (va_runV (As := [.int p2, .int (0 : Int32)]) (rest := []) ⟨hx, hb, hml, hown, hts⟩ (mtq_X5_rows l G base h) (cwV 2 hts gL_tale_X5_rows rfl rfl rfl (by decide +kernel) ⟨Nat.le_of_ble_eq_true rfl, Nat.le_of_ble_eq_true rfl⟩) (xp_V hbase hh hK hX hS (ci := 5) g1 (by decide) rfl) rfl rfl hl.1 rfl (lv_room (Nat.le_of_ble_eq_true rfl)) dL_tale_3 ⟨Nat.le_of_ble_eq_true rfl, Nat.le_of_ble_eq_true rfl⟩) hS (fun r2 m3 H locs h hh hS => ?_)
  refine lv_i2l hx hb dL_tale_6 rfl ?_
  refine lv_topl (fun x4 ex4 => ?_)
  replace h := h x4 ex4
  refine lv_lstore_n (lv' := [(2, .long x4), (0, .ref p1), (1, .int p2)]) hx hb dL_tale_7 rfl hl (by decide) rfl (fun ls hl => ?_)
  refine lv_iconst (v := 0) hx hb dL_tale_8 (by decide) ?_
  refine lv_topi (fun x5 ex5 => ?_)
  replace h := h x5 ex5
  refine lv_istore (lv' := [(4, .int x5), (2, .long x4), (0, .ref p1), (1, .int p2)]) hx hb dL_tale_9 hl (by decide) rfl (fun ls hl => ?_)
  obtain ⟨n9, h⟩ := h
  exact bk_L_tale_11 C0 hl9  n9 _ _ _ _ _ _ _ _ h hh hS (lv_sub hl [2, 3, 1, 0] rfl)

set_option maxHeartbeats 4000000 in
set_option maxRecDepth 100000 in
theorem mt_L_tries (l : Launch) (hl9 : l.stackTraces = false) (G : GG) (base : Nat) {p1 : Nat} {p2 : Int32} {p3 : Int32} {p4 : Int32} {m0 : MM} {Q : Int32 → MM → Prop} {kc ks : Nat} (h : wp_L_tries p1 p2 p3 p4 m0 Q kc ks) : Met l yL_tries wsL_tries ({ frames := 12, cells := kc, slots := ks, locals := 238 }) (va_Pc [.ref p1, .int p2, .int p3, .int p4] (SP G base m0)) (va_Qi Q (HB G base) (xA base)) kc ks (xA base) := by
  refine Met.ofW (cc := cL_tries) (maxL := 7) (ret := (some .boolean)) (by decide) rfl ?_
  intro p e s m args below meth c s₁ B hml hv
  obtain ⟨rfl, hbase, hh, hK, hX⟩ := hv
  have C0 : BC p s m _ meth c G base RL cL_tries 7 (some .boolean) wsL_tries := ⟨B.exec, B.bytes, B.returns, hml, findClass_of_methodNamed B.named, atoms_spec (ws := wsL_tries) B.pre, B.notSynchronized, hK, hbase, hX⟩
  obtain ⟨hx, hb, hr, -, hown, hts, hlocks, -, -, -⟩ := id C0
  have hS : va_S (xA base) s.heap s.heap [] := va_S.rf
  have hl := lv_entry ([.ref p1, .int p2, .int p3, .int p4]) (n := 7) (Nat.le_of_ble_eq_true rfl)
  rw [lg_entry_eq]
  generalize (lg_sl ([.ref p1, .int p2, .int p3, .int p4]) ++ List.replicate (7 - (lg_sl ([.ref p1, .int p2, .int p3, .int p4])).length) Slot.unset).toArray = ls at hl ⊢
  have hl : lv_has ls 7 [(0, .ref p1), (1, .int p2), (2, .int p3), (3, .int p4)] := hl
  unfold wp_L_tries at h
  have hcc : 0 + kc ≤ kc := by omega
  have hss : 0 + ks ≤ ks := by omega
  have q1 : (Cond.constant RL 31 (-2000000)).before _ s = true := hts _ (List.mem_cons_of_mem _ (List.mem_append_left _ (List.mem_append_left _ (List.mem_append_left _ (List.mem_append_left _ (List.mem_append_left _ (List.mem_append_left _ (List.mem_append_left _ (List.mem_append_left _ (List.mem_append_left _ (List.mem_of_getElem? (i := 0) rfl)))))))))))
  refine lv_iload_n hx hb dL_tries_0 rfl (lv_at hl 2 rfl) ?_
  refine lv_aload_n hx hb dL_tries_1 rfl (lv_at hl 0 rfl) ?_
  obtain ⟨g1, h⟩ := h
  refine xc_i (va_runV (As := []) (rest := [.int p3]) ⟨hx, hb, hml, hown, hts⟩ (mt_X5_clock l G base h) (cwV 0 hts gL_tries_X5_clock rfl rfl rfl (by decide +kernel) ⟨Nat.le_of_ble_eq_true rfl, Nat.le_of_ble_eq_true rfl⟩) (xp_V hbase hh hK hX hS (ci := 5) g1 (by decide) rfl) rfl rfl hl.1 rfl (lv_room (Nat.le_of_ble_eq_true rfl)) dL_tries_2 ⟨by show _ ≤ kc; omega, by show _ ≤ ks; omega⟩) hS (fun r2 m3 H locs h hh hS => ?_)
  refine lv_icmp_gt (tgt := 42) hx hb dL_tries_5 (by decide) (fun c4 => ?_) (fun c4 => ?_)
  · replace h := h.1 c4
    refine lv_iconst (v := 1) hx hb dL_tries_42 (by decide) ?_
    exact (xe_z hx hb hr hlocks hbase hh hK hX hS (Or.inr rfl) h (by omega) (by omega) dL_tries_43)
  · replace h := h.2 c4
    refine lv_iload_n hx hb dL_tries_8 rfl (lv_at hl 2 rfl) ?_
    refine lv_aload_n hx hb dL_tries_9 rfl (lv_at hl 0 rfl) ?_
    obtain ⟨g5, h⟩ := h
    refine xc_i (va_runV (As := []) (rest := [.int p3]) ⟨hx, hb, hml, hown, hts⟩ (mt_X5_clock l G base h) (cwV 0 hts gL_tries_X5_clock rfl rfl rfl (by decide +kernel) ⟨Nat.le_of_ble_eq_true rfl, Nat.le_of_ble_eq_true rfl⟩) (xp_V hbase hh hK hX hS (ci := 5) g5 (by decide) rfl) rfl rfl hl.1 rfl (lv_room (Nat.le_of_ble_eq_true rfl)) dL_tries_10 ⟨by show _ ≤ kc; omega, by show _ ≤ ks; omega⟩) hS (fun r6 m7 H locs h hh hS => ?_)
    refine lv_sipush (v := 3600) hx hb dL_tries_13 (by decide) ?_
    refine lv_isub hx hb dL_tries_16 ?_
    refine lv_icmp_lt (tgt := 42) hx hb dL_tries_17 (by decide) (fun c8 => ?_) (fun c8 => ?_)
    · replace h := h.1 c8
      refine lv_iconst (v := 1) hx hb dL_tries_42 (by decide) ?_
      exact (xe_z hx hb hr hlocks hbase hh hK hX hS (Or.inr rfl) h (by omega) (by omega) dL_tries_43)
    · replace h := h.2 c8
      refine lv_aload_n hx hb dL_tries_20 rfl (lv_at hl 0 rfl) ?_
      refine lv_iload_n hx hb dL_tries_21 rfl (lv_at hl 1 rfl) ?_
      refine lv_iconst (v := 0) hx hb dL_tries_22 (by decide) ?_
      obtain ⟨g9, h⟩ := h
      refine xc_i (va_runV (As := [.int p2, .int (0 : Int32)]) (rest := []) ⟨hx, hb, hml, hown, hts⟩ (mtq_X5_rows l G base h) (cwV 2 hts gL_tries_X5_rows rfl rfl rfl (by decide +kernel) ⟨Nat.le_of_ble_eq_true rfl, Nat.le_of_ble_eq_true rfl⟩) (xp_V hbase hh hK hX hS (ci := 5) g9 (by decide) rfl) rfl rfl hl.1 rfl (lv_room (Nat.le_of_ble_eq_true rfl)) dL_tries_23 ⟨by show _ ≤ kc; omega, by show _ ≤ ks; omega⟩) hS (fun r10 m11 H locs h hh hS => ?_)
      refine lv_bipush (v := 100) hx hb dL_tries_26 (by decide) ?_
      refine lv_icmp_eq (tgt := 42) hx hb dL_tries_28 (by decide) (fun c12 => ?_) (fun c12 => ?_)
      · replace h := h.1 c12
        refine lv_iconst (v := 1) hx hb dL_tries_42 (by decide) ?_
        exact (xe_z hx hb hr hlocks hbase hh hK hX hS (Or.inr rfl) h (by omega) (by omega) dL_tries_43)
      · replace h := h.2 c12
        refine lv_aload_n hx hb dL_tries_31 rfl (lv_at hl 0 rfl) ?_
        refine lv_iload_n hx hb dL_tries_32 rfl (lv_at hl 1 rfl) ?_
        refine lv_iload_n hx hb dL_tries_33 rfl (lv_at hl 2 rfl) ?_
        obtain ⟨g13, g14, h⟩ := h
        refine xt_i (vx_runSX (As := [.ref p1, .int p2, .int p3]) (rest := []) ⟨hx, hb, hml, hown, hts⟩ (mt_L_valueAt l hl9 G base h) (vx_cwSW 3 hts gL_tries_L_valueAt rfl rfl rfl (by decide +kernel) ⟨Nat.le_of_ble_eq_true rfl, Nat.le_of_ble_eq_true rfl⟩) (xp_S hbase hh hK hX hS) rfl rfl hl.1 rfl (lv_room (Nat.le_of_ble_eq_true rfl)) dL_tries_34 ⟨by show _ ≤ kc; omega, by show _ ≤ ks; omega⟩) hS (fun k9 m9 H locs q9 ce h hh hS hc9 hv9 hcl9 => h.elim) (fun r15 m16 H locs h hh hS => ?_)
        obtain ⟨kc17, ekc17⟩ : ∃ z : Nat, z = kc - 2 := ⟨_, rfl⟩
        obtain ⟨ks18, eks18⟩ : ∃ z : Nat, z = ks - 12 := ⟨_, rfl⟩
        replace h := h kc17 ks18 ekc17 eks18
        obtain ⟨cl19, ecl19⟩ : ∃ z : Nat, z = 0 + 2 := ⟨_, rfl⟩
        obtain ⟨sl20, esl20⟩ : ∃ z : Nat, z = 0 + 12 := ⟨_, rfl⟩
        refine W_cs ecl19 esl20 ?_
        have hcc : cl19 + kc17 ≤ kc := by omega
        have hss : sl20 + ks18 ≤ ks := by omega
        refine lv_ldc hx hb hown q1 dL_tries_37 ?_
        refine lv_icmp_eq (tgt := 44) hx hb dL_tries_39 (by decide) (fun c21 => ?_) (fun c21 => ?_)
        · replace h := h.1 c21
          refine lv_aload_n hx hb dL_tries_44 rfl (lv_at hl 0 rfl) ?_
          refine lv_iload_n hx hb dL_tries_45 rfl (lv_at hl 1 rfl) ?_
          refine xc_l (va_runS (As := [.ref p1, .int p2]) (rest := []) ⟨hx, hb, hml, hown, hts⟩ (mt_L_tale l hl9 G base h) (va_cwS 2 hts gL_tries_L_tale rfl rfl rfl (by decide +kernel) ⟨Nat.le_of_ble_eq_true rfl, Nat.le_of_ble_eq_true rfl⟩) (xp_S hbase hh hK hX hS) rfl rfl hl.1 rfl (lv_room (Nat.le_of_ble_eq_true rfl)) dL_tries_46 ⟨by show _ ≤ kc; omega, by show _ ≤ ks; omega⟩) hS (fun r22 m23 H locs h hh hS => ?_)
          refine lv_lstore (lv' := [(4, .long r22), (0, .ref p1), (1, .int p2), (2, .int p3), (3, .int p4)]) hx hb dL_tries_49 hl (by decide) rfl (fun ls hl => ?_)
          refine lv_aload_n hx hb dL_tries_51 rfl (lv_at hl 1 rfl) ?_
          refine lv_iload_n hx hb dL_tries_52 rfl (lv_at hl 2 rfl) ?_
          refine lv_iload_n hx hb dL_tries_53 rfl (lv_at hl 3 rfl) ?_
          refine lv_iload_n hx hb dL_tries_54 rfl (lv_at hl 4 rfl) ?_
          obtain ⟨c24, s25, g26, g27, h⟩ := h
          obtain ⟨g28, h⟩ := h
          refine xc_i (va_runV (As := [.int p2, .int p3, .int p4]) (rest := []) ⟨hx, hb, hml, hown, hts⟩ (mtq_X5_put l G base h) (cwV 3 hts gL_tries_X5_put rfl rfl rfl (by decide +kernel) ⟨Nat.le_of_ble_eq_true rfl, Nat.le_of_ble_eq_true rfl⟩) (xp_V hbase hh hK hX hS (ci := 5) g28 (by decide) rfl) rfl rfl hl.1 rfl (lv_room (Nat.le_of_ble_eq_true rfl)) dL_tries_55 ⟨by show _ ≤ kc; omega, by show _ ≤ ks; omega⟩) hS (fun r29 m30 H locs h hh hS => ?_)
          obtain ⟨kc31, ekc31⟩ : ∃ z : Nat, z = kc17 - c24 := ⟨_, rfl⟩
          obtain ⟨ks32, eks32⟩ : ∃ z : Nat, z = ks18 - s25 := ⟨_, rfl⟩
          replace h := h kc31 ks32 ekc31 eks32
          obtain ⟨cl33, ecl33⟩ : ∃ z : Nat, z = cl19 + c24 := ⟨_, rfl⟩
          obtain ⟨sl34, esl34⟩ : ∃ z : Nat, z = sl20 + s25 := ⟨_, rfl⟩
          refine W_cs ecl33 esl34 ?_
          have hcc : cl33 + kc31 ≤ kc := by omega
          have hss : sl34 + ks32 ≤ ks := by omega
          refine lv_if_ne (tgt := 75) hx hb dL_tries_58 (by decide) (fun c35 => ?_) (fun c35 => ?_)
          · replace h := h.1 c35
            refine lv_iconst (v := 0) hx hb dL_tries_75 (by decide) ?_
            refine lv_topi (fun x36 ex36 => ?_)
            replace h := h x36 ex36
            refine lv_istore (lv' := [(6, .int x36), (4, .long r22), (0, .ref p1), (1, .int p2), (2, .int p3), (3, .int p4)]) hx hb dL_tries_76 hl (by decide) rfl (fun ls hl => ?_)
            refine lv_iload hx hb dL_tries_78 (lv_at hl 0 rfl) ?_
            refine lv_if_eq (tgt := 109) hx hb dL_tries_80 (by decide) (fun c37 => ?_) (fun c37 => ?_)
            · replace h := h.1 c37
              refine lv_iconst (v := 0) hx hb dL_tries_109 (by decide) ?_
              exact (xe_z hx hb hr hlocks hbase hh hK hX hS (Or.inl rfl) h (by omega) (by omega) dL_tries_110)
            · replace h := h.2 c37
              refine lv_aload_n hx hb dL_tries_83 rfl (lv_at hl 2 rfl) ?_
              refine lv_iload_n hx hb dL_tries_84 rfl (lv_at hl 3 rfl) ?_
              refine xc_l (va_runS (As := [.ref p1, .int p2]) (rest := []) ⟨hx, hb, hml, hown, hts⟩ (mt_L_tale l hl9 G base h) (va_cwS 2 hts gL_tries_L_tale rfl rfl rfl (by decide +kernel) ⟨Nat.le_of_ble_eq_true rfl, Nat.le_of_ble_eq_true rfl⟩) (xp_S hbase hh hK hX hS) rfl rfl hl.1 rfl (lv_room (Nat.le_of_ble_eq_true rfl)) dL_tries_85 ⟨by show _ ≤ kc; omega, by show _ ≤ ks; omega⟩) hS (fun r38 m39 H locs h hh hS => ?_)
              refine lv_lload hx hb dL_tries_88 (lv_at hl 1 rfl) ?_
              refine W.lcmp hx hb dL_tries_90 ?_
              refine lv_if_ne (tgt := 109) hx hb dL_tries_91 (by decide) (fun c40 => ?_) (fun c40 => ?_)
              · replace h := h.1 c40
                refine lv_iconst (v := 0) hx hb dL_tries_109 (by decide) ?_
                exact (xe_z hx hb hr hlocks hbase hh hK hX hS (Or.inl rfl) h (by omega) (by omega) dL_tries_110)
              · replace h := h.2 c40
                refine lv_aload_n hx hb dL_tries_94 rfl (lv_at hl 2 rfl) ?_
                refine lv_iload_n hx hb dL_tries_95 rfl (lv_at hl 3 rfl) ?_
                refine lv_iload_n hx hb dL_tries_96 rfl (lv_at hl 4 rfl) ?_
                obtain ⟨g41, g42, h⟩ := h
                refine xt_i (vx_runSX (As := [.ref p1, .int p2, .int p3]) (rest := []) ⟨hx, hb, hml, hown, hts⟩ (mt_L_valueAt l hl9 G base h) (vx_cwSW 3 hts gL_tries_L_valueAt rfl rfl rfl (by decide +kernel) ⟨Nat.le_of_ble_eq_true rfl, Nat.le_of_ble_eq_true rfl⟩) (xp_S hbase hh hK hX hS) rfl rfl hl.1 rfl (lv_room (Nat.le_of_ble_eq_true rfl)) dL_tries_97 ⟨by show _ ≤ kc; omega, by show _ ≤ ks; omega⟩) hS (fun k9 m9 H locs q9 ce h hh hS hc9 hv9 hcl9 => h.elim) (fun r43 m44 H locs h hh hS => ?_)
                obtain ⟨kc45, ekc45⟩ : ∃ z : Nat, z = kc31 - 2 := ⟨_, rfl⟩
                obtain ⟨ks46, eks46⟩ : ∃ z : Nat, z = ks32 - 12 := ⟨_, rfl⟩
                replace h := h kc45 ks46 ekc45 eks46
                obtain ⟨cl47, ecl47⟩ : ∃ z : Nat, z = cl33 + 2 := ⟨_, rfl⟩
                obtain ⟨sl48, esl48⟩ : ∃ z : Nat, z = sl34 + 12 := ⟨_, rfl⟩
                refine W_cs ecl47 esl48 ?_
                have hcc : cl47 + kc45 ≤ kc := by omega
                have hss : sl48 + ks46 ≤ ks := by omega
                refine lv_ldc hx hb hown q1 dL_tries_100 ?_
                refine lv_icmp_ne (tgt := 109) hx hb dL_tries_102 (by decide) (fun c49 => ?_) (fun c49 => ?_)
                · replace h := h.1 c49
                  refine lv_iconst (v := 0) hx hb dL_tries_109 (by decide) ?_
                  exact (xe_z hx hb hr hlocks hbase hh hK hX hS (Or.inl rfl) h (by omega) (by omega) dL_tries_110)
                · replace h := h.2 c49
                  refine lv_iconst (v := 1) hx hb dL_tries_105 (by decide) ?_
                  refine lv_goto (tgt := 110) hx hb dL_tries_106 (by decide) ?_
                  exact (xe_z hx hb hr hlocks hbase hh hK hX hS (Or.inr rfl) h (by omega) (by omega) dL_tries_110)
          · replace h := h.2 c35
            refine lv_aload_n hx hb dL_tries_61 rfl (lv_at hl 1 rfl) ?_
            refine lv_iload_n hx hb dL_tries_62 rfl (lv_at hl 2 rfl) ?_
            refine lv_iload_n hx hb dL_tries_63 rfl (lv_at hl 3 rfl) ?_
            obtain ⟨c50, s51, g52, g53, h⟩ := h
            obtain ⟨g54, h⟩ := h
            refine xc_i (va_runV (As := [.int p2, .int p3]) (rest := []) ⟨hx, hb, hml, hown, hts⟩ (mtq_X5_erase l G base h) (cwV 2 hts gL_tries_X5_erase rfl rfl rfl (by decide +kernel) ⟨Nat.le_of_ble_eq_true rfl, Nat.le_of_ble_eq_true rfl⟩) (xp_V hbase hh hK hX hS (ci := 5) g54 (by decide) rfl) rfl rfl hl.1 rfl (lv_room (Nat.le_of_ble_eq_true rfl)) dL_tries_64 ⟨by show _ ≤ kc; omega, by show _ ≤ ks; omega⟩) hS (fun r55 m56 H locs h hh hS => ?_)
            obtain ⟨kc57, ekc57⟩ : ∃ z : Nat, z = kc31 - c50 := ⟨_, rfl⟩
            obtain ⟨ks58, eks58⟩ : ∃ z : Nat, z = ks32 - s51 := ⟨_, rfl⟩
            replace h := h kc57 ks58 ekc57 eks58
            obtain ⟨cl59, ecl59⟩ : ∃ z : Nat, z = cl33 + c50 := ⟨_, rfl⟩
            obtain ⟨sl60, esl60⟩ : ∃ z : Nat, z = sl34 + s51 := ⟨_, rfl⟩
            refine W_cs ecl59 esl60 ?_
            have hcc : cl59 + kc57 ≤ kc := by omega
            have hss : sl60 + ks58 ≤ ks := by omega
            refine lv_iload_n hx hb dL_tries_67 rfl (lv_at hl 4 rfl) ?_
            refine lv_icmp_ne (tgt := 75) hx hb dL_tries_68 (by decide) (fun c61 => ?_) (fun c61 => ?_)
            · replace h := h.1 c61
              refine lv_iconst (v := 0) hx hb dL_tries_75 (by decide) ?_
              refine lv_topi (fun x62 ex62 => ?_)
              replace h := h x62 ex62
              refine lv_istore (lv' := [(6, .int x62), (4, .long r22), (0, .ref p1), (1, .int p2), (2, .int p3), (3, .int p4)]) hx hb dL_tries_76 hl (by decide) rfl (fun ls hl => ?_)
              refine lv_iload hx hb dL_tries_78 (lv_at hl 0 rfl) ?_
              refine lv_if_eq (tgt := 109) hx hb dL_tries_80 (by decide) (fun c63 => ?_) (fun c63 => ?_)
              · replace h := h.1 c63
                refine lv_iconst (v := 0) hx hb dL_tries_109 (by decide) ?_
                exact (xe_z hx hb hr hlocks hbase hh hK hX hS (Or.inl rfl) h (by omega) (by omega) dL_tries_110)
              · replace h := h.2 c63
                refine lv_aload_n hx hb dL_tries_83 rfl (lv_at hl 2 rfl) ?_
                refine lv_iload_n hx hb dL_tries_84 rfl (lv_at hl 3 rfl) ?_
                refine xc_l (va_runS (As := [.ref p1, .int p2]) (rest := []) ⟨hx, hb, hml, hown, hts⟩ (mt_L_tale l hl9 G base h) (va_cwS 2 hts gL_tries_L_tale rfl rfl rfl (by decide +kernel) ⟨Nat.le_of_ble_eq_true rfl, Nat.le_of_ble_eq_true rfl⟩) (xp_S hbase hh hK hX hS) rfl rfl hl.1 rfl (lv_room (Nat.le_of_ble_eq_true rfl)) dL_tries_85 ⟨by show _ ≤ kc; omega, by show _ ≤ ks; omega⟩) hS (fun r64 m65 H locs h hh hS => ?_)
                refine lv_lload hx hb dL_tries_88 (lv_at hl 1 rfl) ?_
                refine W.lcmp hx hb dL_tries_90 ?_
                refine lv_if_ne (tgt := 109) hx hb dL_tries_91 (by decide) (fun c66 => ?_) (fun c66 => ?_)
                · replace h := h.1 c66
                  refine lv_iconst (v := 0) hx hb dL_tries_109 (by decide) ?_
                  exact (xe_z hx hb hr hlocks hbase hh hK hX hS (Or.inl rfl) h (by omega) (by omega) dL_tries_110)
                · replace h := h.2 c66
                  refine lv_aload_n hx hb dL_tries_94 rfl (lv_at hl 2 rfl) ?_
                  refine lv_iload_n hx hb dL_tries_95 rfl (lv_at hl 3 rfl) ?_
                  refine lv_iload_n hx hb dL_tries_96 rfl (lv_at hl 4 rfl) ?_
                  obtain ⟨g67, g68, h⟩ := h
                  refine xt_i (vx_runSX (As := [.ref p1, .int p2, .int p3]) (rest := []) ⟨hx, hb, hml, hown, hts⟩ (mt_L_valueAt l hl9 G base h) (vx_cwSW 3 hts gL_tries_L_valueAt rfl rfl rfl (by decide +kernel) ⟨Nat.le_of_ble_eq_true rfl, Nat.le_of_ble_eq_true rfl⟩) (xp_S hbase hh hK hX hS) rfl rfl hl.1 rfl (lv_room (Nat.le_of_ble_eq_true rfl)) dL_tries_97 ⟨by show _ ≤ kc; omega, by show _ ≤ ks; omega⟩) hS (fun k9 m9 H locs q9 ce h hh hS hc9 hv9 hcl9 => h.elim) (fun r69 m70 H locs h hh hS => ?_)
                  obtain ⟨kc71, ekc71⟩ : ∃ z : Nat, z = kc57 - 2 := ⟨_, rfl⟩
                  obtain ⟨ks72, eks72⟩ : ∃ z : Nat, z = ks58 - 12 := ⟨_, rfl⟩
                  replace h := h kc71 ks72 ekc71 eks72
                  obtain ⟨cl73, ecl73⟩ : ∃ z : Nat, z = cl59 + 2 := ⟨_, rfl⟩
                  obtain ⟨sl74, esl74⟩ : ∃ z : Nat, z = sl60 + 12 := ⟨_, rfl⟩
                  refine W_cs ecl73 esl74 ?_
                  have hcc : cl73 + kc71 ≤ kc := by omega
                  have hss : sl74 + ks72 ≤ ks := by omega
                  refine lv_ldc hx hb hown q1 dL_tries_100 ?_
                  refine lv_icmp_ne (tgt := 109) hx hb dL_tries_102 (by decide) (fun c75 => ?_) (fun c75 => ?_)
                  · replace h := h.1 c75
                    refine lv_iconst (v := 0) hx hb dL_tries_109 (by decide) ?_
                    exact (xe_z hx hb hr hlocks hbase hh hK hX hS (Or.inl rfl) h (by omega) (by omega) dL_tries_110)
                  · replace h := h.2 c75
                    refine lv_iconst (v := 1) hx hb dL_tries_105 (by decide) ?_
                    refine lv_goto (tgt := 110) hx hb dL_tries_106 (by decide) ?_
                    exact (xe_z hx hb hr hlocks hbase hh hK hX hS (Or.inr rfl) h (by omega) (by omega) dL_tries_110)
            · replace h := h.2 c61
              refine lv_iconst (v := 1) hx hb dL_tries_71 (by decide) ?_
              refine lv_goto (tgt := 76) hx hb dL_tries_72 (by decide) ?_
              refine lv_topi (fun x76 ex76 => ?_)
              replace h := h x76 ex76
              refine lv_istore (lv' := [(6, .int x76), (4, .long r22), (0, .ref p1), (1, .int p2), (2, .int p3), (3, .int p4)]) hx hb dL_tries_76 hl (by decide) rfl (fun ls hl => ?_)
              refine lv_iload hx hb dL_tries_78 (lv_at hl 0 rfl) ?_
              refine lv_if_eq (tgt := 109) hx hb dL_tries_80 (by decide) (fun c77 => ?_) (fun c77 => ?_)
              · replace h := h.1 c77
                refine lv_iconst (v := 0) hx hb dL_tries_109 (by decide) ?_
                exact (xe_z hx hb hr hlocks hbase hh hK hX hS (Or.inl rfl) h (by omega) (by omega) dL_tries_110)
              · replace h := h.2 c77
                refine lv_aload_n hx hb dL_tries_83 rfl (lv_at hl 2 rfl) ?_
                refine lv_iload_n hx hb dL_tries_84 rfl (lv_at hl 3 rfl) ?_
                refine xc_l (va_runS (As := [.ref p1, .int p2]) (rest := []) ⟨hx, hb, hml, hown, hts⟩ (mt_L_tale l hl9 G base h) (va_cwS 2 hts gL_tries_L_tale rfl rfl rfl (by decide +kernel) ⟨Nat.le_of_ble_eq_true rfl, Nat.le_of_ble_eq_true rfl⟩) (xp_S hbase hh hK hX hS) rfl rfl hl.1 rfl (lv_room (Nat.le_of_ble_eq_true rfl)) dL_tries_85 ⟨by show _ ≤ kc; omega, by show _ ≤ ks; omega⟩) hS (fun r78 m79 H locs h hh hS => ?_)
                refine lv_lload hx hb dL_tries_88 (lv_at hl 1 rfl) ?_
                refine W.lcmp hx hb dL_tries_90 ?_
                refine lv_if_ne (tgt := 109) hx hb dL_tries_91 (by decide) (fun c80 => ?_) (fun c80 => ?_)
                · replace h := h.1 c80
                  refine lv_iconst (v := 0) hx hb dL_tries_109 (by decide) ?_
                  exact (xe_z hx hb hr hlocks hbase hh hK hX hS (Or.inl rfl) h (by omega) (by omega) dL_tries_110)
                · replace h := h.2 c80
                  refine lv_aload_n hx hb dL_tries_94 rfl (lv_at hl 2 rfl) ?_
                  refine lv_iload_n hx hb dL_tries_95 rfl (lv_at hl 3 rfl) ?_
                  refine lv_iload_n hx hb dL_tries_96 rfl (lv_at hl 4 rfl) ?_
                  obtain ⟨g81, g82, h⟩ := h
                  refine xt_i (vx_runSX (As := [.ref p1, .int p2, .int p3]) (rest := []) ⟨hx, hb, hml, hown, hts⟩ (mt_L_valueAt l hl9 G base h) (vx_cwSW 3 hts gL_tries_L_valueAt rfl rfl rfl (by decide +kernel) ⟨Nat.le_of_ble_eq_true rfl, Nat.le_of_ble_eq_true rfl⟩) (xp_S hbase hh hK hX hS) rfl rfl hl.1 rfl (lv_room (Nat.le_of_ble_eq_true rfl)) dL_tries_97 ⟨by show _ ≤ kc; omega, by show _ ≤ ks; omega⟩) hS (fun k9 m9 H locs q9 ce h hh hS hc9 hv9 hcl9 => h.elim) (fun r83 m84 H locs h hh hS => ?_)
                  obtain ⟨kc85, ekc85⟩ : ∃ z : Nat, z = kc57 - 2 := ⟨_, rfl⟩
                  obtain ⟨ks86, eks86⟩ : ∃ z : Nat, z = ks58 - 12 := ⟨_, rfl⟩
                  replace h := h kc85 ks86 ekc85 eks86
                  obtain ⟨cl87, ecl87⟩ : ∃ z : Nat, z = cl59 + 2 := ⟨_, rfl⟩
                  obtain ⟨sl88, esl88⟩ : ∃ z : Nat, z = sl60 + 12 := ⟨_, rfl⟩
                  refine W_cs ecl87 esl88 ?_
                  have hcc : cl87 + kc85 ≤ kc := by omega
                  have hss : sl88 + ks86 ≤ ks := by omega
                  refine lv_ldc hx hb hown q1 dL_tries_100 ?_
                  refine lv_icmp_ne (tgt := 109) hx hb dL_tries_102 (by decide) (fun c89 => ?_) (fun c89 => ?_)
                  · replace h := h.1 c89
                    refine lv_iconst (v := 0) hx hb dL_tries_109 (by decide) ?_
                    exact (xe_z hx hb hr hlocks hbase hh hK hX hS (Or.inl rfl) h (by omega) (by omega) dL_tries_110)
                  · replace h := h.2 c89
                    refine lv_iconst (v := 1) hx hb dL_tries_105 (by decide) ?_
                    refine lv_goto (tgt := 110) hx hb dL_tries_106 (by decide) ?_
                    exact (xe_z hx hb hr hlocks hbase hh hK hX hS (Or.inr rfl) h (by omega) (by omega) dL_tries_110)
        · replace h := h.2 c21
          refine lv_iconst (v := 1) hx hb dL_tries_42 (by decide) ?_
          exact (xe_z hx hb hr hlocks hbase hh hK hX hS (Or.inr rfl) h (by omega) (by omega) dL_tries_43)

set_option maxHeartbeats 4000000 in
set_option maxRecDepth 100000 in
theorem bk_L_retains_97 {p : Program} {l : Launch} {e : Env} {s : State} {m : MethodId} {args : Array Value} {below : List Frame} {meth : Method} {c : Code} {G : GG} {base : Nat} (C0 : BC p s m args meth c G base RL cL_retains 9 (some .boolean) wsL_retains) (hl9 : l.stackTraces = false) {Q : Int32 → MM → Prop} : ∀ (l0 : Nat) (l1 : Nat) (l3 : Int32) (l5 : Int32) (l6 : Int32) (l7 : Int32) (s0 : Int32) (s1 : Int32) (s2 : Nat) (m0 : MM) (H : Heap) (locs : List Loc) (ls : Array Slot), wp_L_retains_97 Q l0 l1 l3 l5 l6 l7 s0 s1 s2 m0 → hp G (xA base) m0 H → va_S (xA base) s.heap H locs → lv_has ls 9 [(0, .ref l0), (1, .ref l1), (3, .int l3), (5, .int l5), (6, .int l6), (7, .int l7)] → W p l e ({ frames := 9, cells := 0, slots := 0, locals := 182 } : Room) s m args below meth c H locs 0 0 (MQ below (va_Qi Q (HB G base) (xA base)) args s 0 0 (xA base)) (F0 m 97 ls [.int s0, .int s1, .ref s2]) := by
  obtain ⟨hx, hb, hr, hml, hown, hts, hlocks, hK, hbase, hX⟩ := id C0
  intro l0 l1 l3 l5 l6 l7 s0 s1 s2 m0 H locs ls h hh hS hl
  unfold wp_L_retains_97 at h
  obtain ⟨g21, h⟩ := h
  obtain ⟨g22, h⟩ := h
  refine xr_iast hx hb hK hh g21 hS g22 dL_retains_97 (fun H locs hh hS => ?_)
  obtain ⟨m23, em23⟩ : ∃ z : MM, z = sAI m0 s2 (va_up (mAI m0 s2) s1.toNatClampNeg s0) := ⟨_, rfl⟩
  rw [← em23] at hh
  replace h := h m23 em23
  refine lv_aload_n hx hb dL_retains_98 rfl (lv_at hl 0 rfl) ?_
  refine lv_iload_n hx hb dL_retains_99 rfl (lv_at hl 2 rfl) ?_
  refine lv_iload hx hb dL_retains_100 (lv_at hl 3 rfl) ?_
  obtain ⟨g24, h⟩ := h
  refine xc_i (va_runV (As := [.int l3, .int l5]) (rest := []) ⟨hx, hb, hml, hown, hts⟩ (mtq_X5_setRetention l G base h) (cwV 2 hts gL_retains_X5_setRetention rfl rfl rfl (by decide +kernel) ⟨Nat.le_of_ble_eq_true rfl, Nat.le_of_ble_eq_true rfl⟩) (xp_V hbase hh hK hX hS (ci := 5) g24 (by decide) rfl) rfl rfl hl.1 rfl (lv_room (Nat.le_of_ble_eq_true rfl)) dL_retains_102 ⟨Nat.le_of_ble_eq_true rfl, Nat.le_of_ble_eq_true rfl⟩) hS (fun r25 m26 H locs h hh hS => ?_)
  refine lv_iload hx hb dL_retains_105 (lv_at hl 4 rfl) ?_
  refine lv_icmp_ne (tgt := 151) hx hb dL_retains_107 (by decide) (fun c27 => ?_) (fun c27 => ?_)
  · replace h := h.1 c27
    refine lv_iconst (v := 0) hx hb dL_retains_151 (by decide) ?_
    exact (xe_z hx hb hr hlocks hbase hh hK hX hS (Or.inl rfl) h (Nat.le_of_ble_eq_true rfl) (Nat.le_of_ble_eq_true rfl) dL_retains_152)
  · replace h := h.2 c27
    refine lv_aload_n hx hb dL_retains_110 rfl (lv_at hl 1 rfl) ?_
    refine lv_iload_n hx hb dL_retains_111 rfl (lv_at hl 2 rfl) ?_
    refine lv_iload hx hb dL_retains_112 (lv_at hl 3 rfl) ?_
    obtain ⟨g28, h⟩ := h
    refine xc_i (va_runV (As := [.int l3, .int l5]) (rest := []) ⟨hx, hb, hml, hown, hts⟩ (mtq_X5_setRetention l G base h) (cwV 2 hts gL_retains_X5_setRetention rfl rfl rfl (by decide +kernel) ⟨Nat.le_of_ble_eq_true rfl, Nat.le_of_ble_eq_true rfl⟩) (xp_V hbase hh hK hX hS (ci := 5) g28 (by decide) rfl) rfl rfl hl.1 rfl (lv_room (Nat.le_of_ble_eq_true rfl)) dL_retains_114 ⟨Nat.le_of_ble_eq_true rfl, Nat.le_of_ble_eq_true rfl⟩) hS (fun r29 m30 H locs h hh hS => ?_)
    refine lv_iload hx hb dL_retains_117 (lv_at hl 4 rfl) ?_
    refine lv_icmp_ne (tgt := 151) hx hb dL_retains_119 (by decide) (fun c31 => ?_) (fun c31 => ?_)
    · replace h := h.1 c31
      refine lv_iconst (v := 0) hx hb dL_retains_151 (by decide) ?_
      exact (xe_z hx hb hr hlocks hbase hh hK hX hS (Or.inl rfl) h (Nat.le_of_ble_eq_true rfl) (Nat.le_of_ble_eq_true rfl) dL_retains_152)
    · replace h := h.2 c31
      refine lv_aload_n hx hb dL_retains_122 rfl (lv_at hl 0 rfl) ?_
      refine xc_i (va_runS (As := [.ref l0]) (rest := []) ⟨hx, hb, hml, hown, hts⟩ (mt_L_allRows l hl9 G base h) (va_cwS 1 hts gL_retains_L_allRows rfl rfl rfl (by decide +kernel) ⟨Nat.le_of_ble_eq_true rfl, Nat.le_of_ble_eq_true rfl⟩) (xp_S hbase hh hK hX hS) rfl rfl hl.1 rfl (lv_room (Nat.le_of_ble_eq_true rfl)) dL_retains_123 ⟨Nat.le_of_ble_eq_true rfl, Nat.le_of_ble_eq_true rfl⟩) hS (fun r32 m33 H locs h hh hS => ?_)
      refine lv_iload hx hb dL_retains_126 (lv_at hl 5 rfl) ?_
      refine lv_icmp_gt (tgt := 151) hx hb dL_retains_128 (by decide) (fun c34 => ?_) (fun c34 => ?_)
      · replace h := h.1 c34
        refine lv_iconst (v := 0) hx hb dL_retains_151 (by decide) ?_
        exact (xe_z hx hb hr hlocks hbase hh hK hX hS (Or.inl rfl) h (Nat.le_of_ble_eq_true rfl) (Nat.le_of_ble_eq_true rfl) dL_retains_152)
      · replace h := h.2 c34
        refine lv_iload hx hb dL_retains_131 (lv_at hl 3 rfl) ?_
        refine lv_iload hx hb dL_retains_133 (lv_at hl 4 rfl) ?_
        refine lv_icmp_lt (tgt := 147) hx hb dL_retains_135 (by decide) (fun c35 => ?_) (fun c35 => ?_)
        · replace h := h.1 c35
          refine lv_iconst (v := 1) hx hb dL_retains_147 (by decide) ?_
          refine lv_goto (tgt := 152) hx hb dL_retains_148 (by decide) ?_
          exact (xe_z hx hb hr hlocks hbase hh hK hX hS (Or.inr rfl) h (Nat.le_of_ble_eq_true rfl) (Nat.le_of_ble_eq_true rfl) dL_retains_152)
        · replace h := h.2 c35
          refine lv_aload_n hx hb dL_retains_138 rfl (lv_at hl 0 rfl) ?_
          refine xc_i (va_runS (As := [.ref l0]) (rest := []) ⟨hx, hb, hml, hown, hts⟩ (mt_L_allRows l hl9 G base h) (va_cwS 1 hts gL_retains_L_allRows rfl rfl rfl (by decide +kernel) ⟨Nat.le_of_ble_eq_true rfl, Nat.le_of_ble_eq_true rfl⟩) (xp_S hbase hh hK hX hS) rfl rfl hl.1 rfl (lv_room (Nat.le_of_ble_eq_true rfl)) dL_retains_139 ⟨Nat.le_of_ble_eq_true rfl, Nat.le_of_ble_eq_true rfl⟩) hS (fun r36 m37 H locs h hh hS => ?_)
          refine lv_iload hx hb dL_retains_142 (lv_at hl 5 rfl) ?_
          refine lv_icmp_ne (tgt := 151) hx hb dL_retains_144 (by decide) (fun c38 => ?_) (fun c38 => ?_)
          · replace h := h.1 c38
            refine lv_iconst (v := 0) hx hb dL_retains_151 (by decide) ?_
            exact (xe_z hx hb hr hlocks hbase hh hK hX hS (Or.inl rfl) h (Nat.le_of_ble_eq_true rfl) (Nat.le_of_ble_eq_true rfl) dL_retains_152)
          · replace h := h.2 c38
            refine lv_iconst (v := 1) hx hb dL_retains_147 (by decide) ?_
            refine lv_goto (tgt := 152) hx hb dL_retains_148 (by decide) ?_
            exact (xe_z hx hb hr hlocks hbase hh hK hX hS (Or.inr rfl) h (Nat.le_of_ble_eq_true rfl) (Nat.le_of_ble_eq_true rfl) dL_retains_152)

set_option maxHeartbeats 4000000 in
set_option maxRecDepth 100000 in
theorem bk_L_retains_38 {p : Program} {l : Launch} {e : Env} {s : State} {m : MethodId} {args : Array Value} {below : List Frame} {meth : Method} {c : Code} {G : GG} {base : Nat} (C0 : BC p s m args meth c G base RL cL_retains 9 (some .boolean) wsL_retains) (hl9 : l.stackTraces = false) {Q : Int32 → MM → Prop} : ∀ (l0 : Nat) (l1 : Nat) (l2 : Nat) (l3 : Int32) (s0 : Int32) (s1 : Int32) (m0 : MM) (H : Heap) (locs : List Loc) (ls : Array Slot), wp_L_retains_38 Q l0 l1 l2 l3 s0 s1 m0 → hp G (xA base) m0 H → va_S (xA base) s.heap H locs → lv_has ls 9 [(0, .ref l0), (1, .ref l1), (2, .ref l2), (3, .int l3)] → W p l e ({ frames := 9, cells := 0, slots := 0, locals := 182 } : Room) s m args below meth c H locs 0 0 (MQ below (va_Qi Q (HB G base) (xA base)) args s 0 0 (xA base)) (F0 m 38 ls [.int s0, .int s1]) := by
  obtain ⟨hx, hb, hr, hml, hown, hts, hlocks, hK, hbase, hX⟩ := id C0
  intro l0 l1 l2 l3 s0 s1 m0 H locs ls h hh hS hl
  unfold wp_L_retains_38 at h
  refine lv_iadd hx hb dL_retains_38 ?_
  refine lv_topi (fun x3 ex3 => ?_)
  replace h := h x3 ex3
  refine lv_istore (lv' := [(5, .int x3), (0, .ref l0), (1, .ref l1), (2, .ref l2), (3, .int l3)]) hx hb dL_retains_39 hl (by decide) rfl (fun ls hl => ?_)
  refine lv_aload_n hx hb dL_retains_41 rfl (lv_at hl 3 rfl) ?_
  refine lv_iconst (v := 2) hx hb dL_retains_42 (by decide) ?_
  refine lv_iload_n hx hb dL_retains_43 rfl (lv_at hl 4 rfl) ?_
  refine lv_iadd hx hb dL_retains_44 ?_
  obtain ⟨g4, h⟩ := h
  obtain ⟨g5, h⟩ := h
  refine xr_iald hx hb hK hh g4 g5 dL_retains_45 ?_
  refine lv_topi (fun x6 ex6 => ?_)
  replace h := h x6 ex6
  refine lv_istore (lv' := [(6, .int x6), (5, .int x3), (0, .ref l0), (1, .ref l1), (2, .ref l2), (3, .int l3)]) hx hb dL_retains_46 hl (by decide) rfl (fun ls hl => ?_)
  refine lv_aload_n hx hb dL_retains_48 rfl (lv_at hl 2 rfl) ?_
  refine xc_i (va_runS (As := [.ref l0]) (rest := []) ⟨hx, hb, hml, hown, hts⟩ (mt_L_allRows l hl9 G base h) (va_cwS 1 hts gL_retains_L_allRows rfl rfl rfl (by decide +kernel) ⟨Nat.le_of_ble_eq_true rfl, Nat.le_of_ble_eq_true rfl⟩) (xp_S hbase hh hK hX hS) rfl rfl hl.1 rfl (lv_room (Nat.le_of_ble_eq_true rfl)) dL_retains_49 ⟨Nat.le_of_ble_eq_true rfl, Nat.le_of_ble_eq_true rfl⟩) hS (fun r7 m8 H locs h hh hS => ?_)
  refine lv_istore (lv' := [(7, .int r7), (6, .int x6), (5, .int x3), (0, .ref l0), (1, .ref l1), (2, .ref l2), (3, .int l3)]) hx hb dL_retains_52 hl (by decide) rfl (fun ls hl => ?_)
  refine lv_aload_n hx hb dL_retains_54 rfl (lv_at hl 5 rfl) ?_
  refine lv_iconst (v := 2) hx hb dL_retains_55 (by decide) ?_
  refine lv_iload_n hx hb dL_retains_56 rfl (lv_at hl 6 rfl) ?_
  refine lv_iadd hx hb dL_retains_57 ?_
  refine lv_iload hx hb dL_retains_58 (lv_at hl 2 rfl) ?_
  obtain ⟨g9, h⟩ := h
  obtain ⟨g10, h⟩ := h
  refine xr_iast hx hb hK hh g9 hS g10 dL_retains_60 (fun H locs hh hS => ?_)
  obtain ⟨m11, em11⟩ : ∃ z : MM, z = sAI m8 l2 (va_up (mAI m8 l2) ((2 : Int32) + l3).toNatClampNeg x3) := ⟨_, rfl⟩
  rw [← em11] at hh
  replace h := h m11 em11
  refine lv_aload_n hx hb dL_retains_61 rfl (lv_at hl 3 rfl) ?_
  obtain ⟨g12, h⟩ := h
  refine xc_i (va_runV (As := []) (rest := []) ⟨hx, hb, hml, hown, hts⟩ (mt_X5_clock l G base h) (cwV 0 hts gL_retains_X5_clock rfl rfl rfl (by decide +kernel) ⟨Nat.le_of_ble_eq_true rfl, Nat.le_of_ble_eq_true rfl⟩) (xp_V hbase hh hK hX hS (ci := 5) g12 (by decide) rfl) rfl rfl hl.1 rfl (lv_room (Nat.le_of_ble_eq_true rfl)) dL_retains_62 ⟨Nat.le_of_ble_eq_true rfl, Nat.le_of_ble_eq_true rfl⟩) hS (fun r13 m14 H locs h hh hS => ?_)
  refine lv_iload hx hb dL_retains_65 (lv_at hl 2 rfl) ?_
  refine lv_isub hx hb dL_retains_67 ?_
  refine lv_topi (fun x15 ex15 => ?_)
  replace h := h x15 ex15
  refine lv_istore (lv' := [(8, .int x15), (7, .int r7), (6, .int x6), (5, .int x3), (0, .ref l0), (1, .ref l1), (2, .ref l2), (3, .int l3)]) hx hb dL_retains_68 hl (by decide) rfl (fun ls hl => ?_)
  refine lv_aload_n hx hb dL_retains_70 rfl (lv_at hl 6 rfl) ?_
  refine lv_bipush (v := 6) hx hb dL_retains_71 (by decide) ?_
  refine lv_iload_n hx hb dL_retains_73 rfl (lv_at hl 7 rfl) ?_
  refine lv_iadd hx hb dL_retains_74 ?_
  refine lv_iload hx hb dL_retains_75 (lv_at hl 0 rfl) ?_
  refine lv_aload_n hx hb dL_retains_77 rfl (lv_at hl 6 rfl) ?_
  refine lv_bipush (v := 6) hx hb dL_retains_78 (by decide) ?_
  refine lv_iload_n hx hb dL_retains_80 rfl (lv_at hl 7 rfl) ?_
  refine lv_iadd hx hb dL_retains_81 ?_
  obtain ⟨g16, h⟩ := h
  obtain ⟨g17, h⟩ := h
  refine xr_iald hx hb hK hh g16 g17 dL_retains_82 ?_
  refine lv_icmp_le (tgt := 91) hx hb dL_retains_83 (by decide) (fun c18 => ?_) (fun c18 => ?_)
  · replace h := h.1 c18
    refine lv_aload_n hx hb dL_retains_91 rfl (lv_at hl 6 rfl) ?_
    refine lv_bipush (v := 6) hx hb dL_retains_92 (by decide) ?_
    refine lv_iload_n hx hb dL_retains_94 rfl (lv_at hl 7 rfl) ?_
    refine lv_iadd hx hb dL_retains_95 ?_
    obtain ⟨g19, h⟩ := h
    obtain ⟨g20, h⟩ := h
    refine xr_iald hx hb hK hh g19 g20 dL_retains_96 ?_
    exact bk_L_retains_97 C0 hl9  _ _ _ _ _ _ _ _ _ _ _ _ _ h hh hS (lv_sub hl [4, 5, 7, 3, 2, 1] rfl)
  · replace h := h.2 c18
    refine lv_iload hx hb dL_retains_86 (lv_at hl 0 rfl) ?_
    refine lv_goto (tgt := 97) hx hb dL_retains_88 (by decide) ?_
    exact bk_L_retains_97 C0 hl9  _ _ _ _ _ _ _ _ _ _ _ _ _ h hh hS (lv_sub hl [4, 5, 7, 3, 2, 1] rfl)

set_option maxHeartbeats 4000000 in
set_option maxRecDepth 100000 in
theorem bk_L_retains_13 {p : Program} {l : Launch} {e : Env} {s : State} {m : MethodId} {args : Array Value} {below : List Frame} {meth : Method} {c : Code} {G : GG} {base : Nat} (C0 : BC p s m args meth c G base RL cL_retains 9 (some .boolean) wsL_retains) (hl9 : l.stackTraces = false) {Q : Int32 → MM → Prop} : ∀ (l0 : Nat) (l1 : Nat) (l2 : Nat) (l3 : Int32) (l4 : Int32) (s0 : Int32) (m0 : MM) (H : Heap) (locs : List Loc) (ls : Array Slot), wp_L_retains_13 Q l0 l1 l2 l3 l4 s0 m0 → hp G (xA base) m0 H → va_S (xA base) s.heap H locs → lv_has ls 9 [(0, .ref l0), (1, .ref l1), (2, .ref l2), (3, .int l3), (4, .int l4)] → W p l e ({ frames := 9, cells := 0, slots := 0, locals := 182 } : Room) s m args below meth c H locs 0 0 (MQ below (va_Qi Q (HB G base) (xA base)) args s 0 0 (xA base)) (F0 m 13 ls [.int s0]) := by
  obtain ⟨hx, hb, hr, hml, hown, hts, hlocks, hK, hbase, hX⟩ := id C0
  intro l0 l1 l2 l3 l4 s0 m0 H locs ls h hh hS hl
  unfold wp_L_retains_13 at h
  have q1 : (Cond.constant RL 131 (1000000)).before _ s = true := hts _ (List.mem_cons_of_mem _ (List.mem_append_left _ (List.mem_append_left _ (List.mem_append_left _ (List.mem_append_left _ (List.mem_append_left _ (List.mem_append_left _ (List.mem_append_left _ (List.mem_append_left _ (List.mem_of_getElem? (i := 1) rfl))))))))))
  refine lv_iload hx hb dL_retains_13 (lv_at hl 4 rfl) ?_
  refine lv_iconst (v := 3) hx hb dL_retains_15 (by decide) ?_
  refine lv_irem hx hb dL_retains_16 (by decide) ?_
  refine lv_if_ne (tgt := 30) hx hb dL_retains_17 (by decide) (fun c2 => ?_) (fun c2 => ?_)
  · replace h := h.1 c2
    refine lv_iload hx hb dL_retains_30 (lv_at hl 4 rfl) ?_
    refine lv_iconst (v := 3) hx hb dL_retains_32 (by decide) ?_
    refine lv_idiv hx hb dL_retains_33 (by decide) ?_
    refine lv_sipush (v := 4000) hx hb dL_retains_34 (by decide) ?_
    refine lv_irem hx hb dL_retains_37 (by decide) ?_
    exact bk_L_retains_38 C0 hl9  _ _ _ _ _ _ _ _ _ _ h hh hS (lv_sub hl [0, 1, 2, 3] rfl)
  · replace h := h.2 c2
    refine lv_iload hx hb dL_retains_20 (lv_at hl 4 rfl) ?_
    refine lv_iconst (v := 3) hx hb dL_retains_22 (by decide) ?_
    refine lv_idiv hx hb dL_retains_23 (by decide) ?_
    refine lv_ldc hx hb hown q1 dL_retains_24 ?_
    refine lv_irem hx hb dL_retains_26 (by decide) ?_
    refine lv_goto (tgt := 38) hx hb dL_retains_27 (by decide) ?_
    exact bk_L_retains_38 C0 hl9  _ _ _ _ _ _ _ _ _ _ h hh hS (lv_sub hl [0, 1, 2, 3] rfl)

set_option maxHeartbeats 4000000 in
set_option maxRecDepth 100000 in
theorem mt_L_retains (l : Launch) (hl9 : l.stackTraces = false) (G : GG) (base : Nat) {p1 : Nat} {p2 : Nat} {p3 : Nat} {p4 : Int32} {p5 : Int32} {m0 : MM} {Q : Int32 → MM → Prop} (h : wp_L_retains p1 p2 p3 p4 p5 m0 Q) : Met l yL_retains wsL_retains ({ frames := 9, cells := 0, slots := 0, locals := 182 }) (va_Pc [.ref p1, .ref p2, .ref p3, .int p4, .int p5] (SP G base m0)) (va_Qi Q (HB G base) (xA base)) 0 0 (xA base) := by
  refine Met.ofW (cc := cL_retains) (maxL := 9) (ret := (some .boolean)) (by decide) rfl ?_
  intro p e s m args below meth c s₁ B hml hv
  obtain ⟨rfl, hbase, hh, hK, hX⟩ := hv
  have C0 : BC p s m _ meth c G base RL cL_retains 9 (some .boolean) wsL_retains := ⟨B.exec, B.bytes, B.returns, hml, findClass_of_methodNamed B.named, atoms_spec (ws := wsL_retains) B.pre, B.notSynchronized, hK, hbase, hX⟩
  obtain ⟨hx, hb, hr, -, hown, hts, hlocks, -, -, -⟩ := id C0
  have hS : va_S (xA base) s.heap s.heap [] := va_S.rf
  have hl := lv_entry ([.ref p1, .ref p2, .ref p3, .int p4, .int p5]) (n := 9) (Nat.le_of_ble_eq_true rfl)
  rw [lg_entry_eq]
  generalize (lg_sl ([.ref p1, .ref p2, .ref p3, .int p4, .int p5]) ++ List.replicate (9 - (lg_sl ([.ref p1, .ref p2, .ref p3, .int p4, .int p5])).length) Slot.unset).toArray = ls at hl ⊢
  have hl : lv_has ls 9 [(0, .ref p1), (1, .ref p2), (2, .ref p3), (3, .int p4), (4, .int p5)] := hl
  unfold wp_L_retains at h
  have q1 : (Cond.constant RL 143 (90000)).before _ s = true := hts _ (List.mem_cons_of_mem _ (List.mem_append_left _ (List.mem_append_left _ (List.mem_append_left _ (List.mem_append_left _ (List.mem_append_left _ (List.mem_append_left _ (List.mem_append_left _ (List.mem_append_left _ (List.mem_of_getElem? (i := 0) rfl))))))))))
  refine lv_iload_n hx hb dL_retains_0 rfl (lv_at hl 3 rfl) ?_
  refine lv_iconst (v := 2) hx hb dL_retains_1 (by decide) ?_
  refine lv_icmp_ge (tgt := 11) hx hb dL_retains_2 (by decide) (fun c1 => ?_) (fun c1 => ?_)
  · replace h := h.1 c1
    refine lv_ldc hx hb hown q1 dL_retains_11 ?_
    exact bk_L_retains_13 C0 hl9  _ _ _ _ _ _ _ _ _ _ h hh hS (lv_sub hl [0, 1, 2, 3, 4] rfl)
  · replace h := h.2 c1
    refine lv_sipush (v := 7200) hx hb dL_retains_5 (by decide) ?_
    refine lv_goto (tgt := 13) hx hb dL_retains_8 (by decide) ?_
    exact bk_L_retains_13 C0 hl9  _ _ _ _ _ _ _ _ _ _ h hh hS (lv_sub hl [0, 1, 2, 3, 4] rfl)

set_option maxHeartbeats 4000000 in
set_option maxRecDepth 100000 in
theorem bk_L_step_240 {p : Program} {l : Launch} {e : Env} {s : State} {m : MethodId} {args : Array Value} {below : List Frame} {meth : Method} {c : Code} {G : GG} {base : Nat} {MC MS : Nat} (C0 : BC p s m args meth c G base RL cL_step 13 (some .boolean) wsL_step) (hl9 : l.stackTraces = false) {Q : Int32 → MM → Prop} : ∀ (s0 : Int32) (m0 : MM) (H : Heap) (locs : List Loc) (ls : Array Slot) (cl9 sl9 kc ks : Nat) (hcc : cl9 + kc ≤ MC) (hss : sl9 + ks ≤ MS), wp_L_step_240 Q s0 m0 kc ks → hp G (xA base) m0 H → va_S (xA base) s.heap H locs → lv_has ls 13 [] → W p l e ({ frames := 13, cells := MC, slots := MS, locals := 266 } : Room) s m args below meth c H locs cl9 sl9 (MQ below (va_Qi Q (HB G base) (xA base)) args s MC MS (xA base)) (F0 m 240 ls [.int s0]) := by
  obtain ⟨hx, hb, hr, hml, hown, hts, hlocks, hK, hbase, hX⟩ := id C0
  intro s0 m0 H locs ls cl9 sl9 kc ks hcc hss h hh hS hl
  unfold wp_L_step_240 at h
  refine lv_iconst (v := 0) hx hb dL_step_240 (by decide) ?_
  refine lv_icmp_ne (tgt := 248) hx hb dL_step_241 (by decide) (fun c38 => ?_) (fun c38 => ?_)
  · replace h := h.1 c38
    refine lv_iconst (v := 0) hx hb dL_step_248 (by decide) ?_
    exact (xe_z hx hb hr hlocks hbase hh hK hX hS (Or.inl rfl) h (by omega) (by omega) dL_step_249)
  · replace h := h.2 c38
    refine lv_iconst (v := 1) hx hb dL_step_244 (by decide) ?_
    refine lv_goto (tgt := 249) hx hb dL_step_245 (by decide) ?_
    exact (xe_z hx hb hr hlocks hbase hh hK hX hS (Or.inr rfl) h (by omega) (by omega) dL_step_249)

set_option maxHeartbeats 4000000 in
set_option maxRecDepth 100000 in
theorem bk_L_step_201 {p : Program} {l : Launch} {e : Env} {s : State} {m : MethodId} {args : Array Value} {below : List Frame} {meth : Method} {c : Code} {G : GG} {base : Nat} {MC MS : Nat} (C0 : BC p s m args meth c G base RL cL_step 13 (some .boolean) wsL_step) (hl9 : l.stackTraces = false) {Q : Int32 → MM → Prop} : ∀ (l0 : Nat) (l1 : Nat) (l6 : Int32) (l8 : Int32) (l9 : Int32) (s0 : Int32) (m0 : MM) (H : Heap) (locs : List Loc) (ls : Array Slot) (cl9 sl9 kc ks : Nat) (hcc : cl9 + kc ≤ MC) (hss : sl9 + ks ≤ MS), wp_L_step_201 Q l0 l1 l6 l8 l9 s0 m0 kc ks → hp G (xA base) m0 H → va_S (xA base) s.heap H locs → lv_has ls 13 [(0, .ref l0), (1, .ref l1), (6, .int l6), (8, .int l8), (9, .int l9)] → W p l e ({ frames := 13, cells := MC, slots := MS, locals := 266 } : Room) s m args below meth c H locs cl9 sl9 (MQ below (va_Qi Q (HB G base) (xA base)) args s MC MS (xA base)) (F0 m 201 ls [.int s0]) := by
  obtain ⟨hx, hb, hr, hml, hown, hts, hlocks, hK, hbase, hX⟩ := id C0
  intro l0 l1 l6 l8 l9 s0 m0 H locs ls cl9 sl9 kc ks hcc hss h hh hS hl
  unfold wp_L_step_201 at h
  refine lv_iload hx hb dL_step_201 (lv_at hl 3 rfl) ?_
  refine lv_aload_n hx hb dL_step_203 rfl (lv_at hl 1 rfl) ?_
  obtain ⟨g34, h⟩ := h
  refine xc_i (va_runV (As := []) (rest := [.int l8, .int s0]) ⟨hx, hb, hml, hown, hts⟩ (mt_X5_clock l G base h) (cwV 0 hts gL_step_X5_clock rfl rfl rfl (by decide +kernel) ⟨Nat.le_of_ble_eq_true rfl, Nat.le_of_ble_eq_true rfl⟩) (xp_V hbase hh hK hX hS (ci := 5) g34 (by decide) rfl) rfl rfl hl.1 rfl (lv_room (Nat.le_of_ble_eq_true rfl)) dL_step_204 ⟨by show _ ≤ MC; omega, by show _ ≤ MS; omega⟩) hS (fun r35 m36 H locs h hh hS => ?_)
  refine lv_sipush (v := 3600) hx hb dL_step_207 (by decide) ?_
  refine lv_isub hx hb dL_step_210 ?_
  refine lv_icmp_lt (tgt := 240) hx hb dL_step_211 (by decide) (fun c37 => ?_) (fun c37 => ?_)
  · replace h := h.1 c37
    exact bk_L_step_240 C0 hl9  _ _ _ _ _ cl9 sl9 kc ks hcc hss h hh hS (lv_sub hl [] rfl)
  · replace h := h.2 c37
    refine lv_iload hx hb dL_step_214 (lv_at hl 3 rfl) ?_
    refine lv_aload_n hx hb dL_step_216 rfl (lv_at hl 1 rfl) ?_
    obtain ⟨g39, h⟩ := h
    refine xc_i (va_runV (As := []) (rest := [.int l8, .int s0]) ⟨hx, hb, hml, hown, hts⟩ (mt_X5_clock l G base h) (cwV 0 hts gL_step_X5_clock rfl rfl rfl (by decide +kernel) ⟨Nat.le_of_ble_eq_true rfl, Nat.le_of_ble_eq_true rfl⟩) (xp_V hbase hh hK hX hS (ci := 5) g39 (by decide) rfl) rfl rfl hl.1 rfl (lv_room (Nat.le_of_ble_eq_true rfl)) dL_step_217 ⟨by show _ ≤ MC; omega, by show _ ≤ MS; omega⟩) hS (fun r40 m41 H locs h hh hS => ?_)
    refine lv_icmp_gt (tgt := 240) hx hb dL_step_220 (by decide) (fun c42 => ?_) (fun c42 => ?_)
    · replace h := h.1 c42
      exact bk_L_step_240 C0 hl9  _ _ _ _ _ cl9 sl9 kc ks hcc hss h hh hS (lv_sub hl [] rfl)
    · replace h := h.2 c42
      refine lv_aload_n hx hb dL_step_223 rfl (lv_at hl 0 rfl) ?_
      refine lv_iload hx hb dL_step_224 (lv_at hl 2 rfl) ?_
      refine lv_iload hx hb dL_step_226 (lv_at hl 3 rfl) ?_
      obtain ⟨g43, g44, h⟩ := h
      refine xt_i (vx_runSX (As := [.ref l0, .int l6, .int l8]) (rest := [.int s0]) ⟨hx, hb, hml, hown, hts⟩ (mt_L_valueAt l hl9 G base h) (vx_cwSW 3 hts gL_step_L_valueAt rfl rfl rfl (by decide +kernel) ⟨Nat.le_of_ble_eq_true rfl, Nat.le_of_ble_eq_true rfl⟩) (xp_S hbase hh hK hX hS) rfl rfl hl.1 rfl (lv_room (Nat.le_of_ble_eq_true rfl)) dL_step_228 ⟨by show _ ≤ MC; omega, by show _ ≤ MS; omega⟩) hS (fun k9 m9 H locs q9 ce h hh hS hc9 hv9 hcl9 => h.elim) (fun r45 m46 H locs h hh hS => ?_)
      obtain ⟨kc47, ekc47⟩ : ∃ z : Nat, z = kc - 2 := ⟨_, rfl⟩
      obtain ⟨ks48, eks48⟩ : ∃ z : Nat, z = ks - 12 := ⟨_, rfl⟩
      replace h := h kc47 ks48 ekc47 eks48
      obtain ⟨cl49, ecl49⟩ : ∃ z : Nat, z = cl9 + 2 := ⟨_, rfl⟩
      obtain ⟨sl50, esl50⟩ : ∃ z : Nat, z = sl9 + 12 := ⟨_, rfl⟩
      refine W_cs ecl49 esl50 ?_
      have hcc : cl49 + kc47 ≤ MC := by omega
      have hss : sl50 + ks48 ≤ MS := by omega
      refine lv_iload hx hb dL_step_231 (lv_at hl 4 rfl) ?_
      refine lv_icmp_ne (tgt := 240) hx hb dL_step_233 (by decide) (fun c51 => ?_) (fun c51 => ?_)
      · replace h := h.1 c51
        exact bk_L_step_240 C0 hl9  _ _ _ _ _ cl49 sl50 kc47 ks48 hcc hss h hh hS (lv_sub hl [] rfl)
      · replace h := h.2 c51
        refine lv_iconst (v := 1) hx hb dL_step_236 (by decide) ?_
        refine lv_goto (tgt := 241) hx hb dL_step_237 (by decide) ?_
        refine lv_icmp_ne (tgt := 248) hx hb dL_step_241 (by decide) (fun c52 => ?_) (fun c52 => ?_)
        · replace h := h.1 c52
          refine lv_iconst (v := 0) hx hb dL_step_248 (by decide) ?_
          exact (xe_z hx hb hr hlocks hbase hh hK hX hS (Or.inl rfl) h (by omega) (by omega) dL_step_249)
        · replace h := h.2 c52
          refine lv_iconst (v := 1) hx hb dL_step_244 (by decide) ?_
          refine lv_goto (tgt := 249) hx hb dL_step_245 (by decide) ?_
          exact (xe_z hx hb hr hlocks hbase hh hK hX hS (Or.inr rfl) h (by omega) (by omega) dL_step_249)

set_option maxHeartbeats 4000000 in
set_option maxRecDepth 100000 in
theorem bk_L_step_168 {p : Program} {l : Launch} {e : Env} {s : State} {m : MethodId} {args : Array Value} {below : List Frame} {meth : Method} {c : Code} {G : GG} {base : Nat} {MC MS : Nat} (C0 : BC p s m args meth c G base RL cL_step 13 (some .boolean) wsL_step) (hl9 : l.stackTraces = false) {Q : Int32 → MM → Prop} : ∀ (l0 : Nat) (l1 : Nat) (l5 : Nat) (l6 : Int32) (l8 : Int32) (l9 : Int32) (m0 : MM) (H : Heap) (locs : List Loc) (ls : Array Slot) (cl9 sl9 kc ks : Nat) (hcc : cl9 + kc ≤ MC) (hss : sl9 + ks ≤ MS), wp_L_step_168 Q l0 l1 l5 l6 l8 l9 m0 kc ks → hp G (xA base) m0 H → va_S (xA base) s.heap H locs → lv_has ls 13 [(0, .ref l0), (1, .ref l1), (5, .ref l5), (6, .int l6), (8, .int l8), (9, .int l9)] → W p l e ({ frames := 13, cells := MC, slots := MS, locals := 266 } : Room) s m args below meth c H locs cl9 sl9 (MQ below (va_Qi Q (HB G base) (xA base)) args s MC MS (xA base)) (F0 m 168 ls []) := by
  obtain ⟨hx, hb, hr, hml, hown, hts, hlocks, hK, hbase, hX⟩ := id C0
  intro l0 l1 l5 l6 l8 l9 m0 H locs ls cl9 sl9 kc ks hcc hss h hh hS hl
  unfold wp_L_step_168 at h
  refine lv_aload_n hx hb dL_step_168 rfl (lv_at hl 0 rfl) ?_
  refine lv_aload hx hb dL_step_169 (lv_at hl 2 rfl) ?_
  refine lv_iload hx hb dL_step_171 (lv_at hl 3 rfl) ?_
  refine lv_iload hx hb dL_step_173 (lv_at hl 4 rfl) ?_
  refine lv_iload hx hb dL_step_175 (lv_at hl 5 rfl) ?_
  obtain ⟨c12, s13, g14, g15, h⟩ := h
  refine xc_i (va_runS (As := [.ref l0, .ref l5, .int l6, .int l8, .int l9]) (rest := []) ⟨hx, hb, hml, hown, hts⟩ (mt_L_writes l hl9 G base h) (va_cwS 5 hts gL_step_L_writes rfl rfl rfl (by decide +kernel) ⟨Nat.le_of_ble_eq_true rfl, Nat.le_of_ble_eq_true rfl⟩) (xp_S hbase hh hK hX hS) rfl rfl hl.1 rfl (lv_room (Nat.le_of_ble_eq_true rfl)) dL_step_177 ⟨by show _ ≤ MC; omega, by show _ ≤ MS; omega⟩) hS (fun r16 m17 H locs h hh hS => ?_)
  obtain ⟨kc18, ekc18⟩ : ∃ z : Nat, z = kc - c12 := ⟨_, rfl⟩
  obtain ⟨ks19, eks19⟩ : ∃ z : Nat, z = ks - s13 := ⟨_, rfl⟩
  replace h := h kc18 ks19 ekc18 eks19
  obtain ⟨cl20, ecl20⟩ : ∃ z : Nat, z = cl9 + c12 := ⟨_, rfl⟩
  obtain ⟨sl21, esl21⟩ : ∃ z : Nat, z = sl9 + s13 := ⟨_, rfl⟩
  refine W_cs ecl20 esl21 ?_
  have hcc : cl20 + kc18 ≤ MC := by omega
  have hss : sl21 + ks19 ≤ MS := by omega
  refine lv_if_eq (tgt := 248) hx hb dL_step_180 (by decide) (fun c22 => ?_) (fun c22 => ?_)
  · replace h := h.1 c22
    refine lv_iconst (v := 0) hx hb dL_step_248 (by decide) ?_
    exact (xe_z hx hb hr hlocks hbase hh hK hX hS (Or.inl rfl) h (by omega) (by omega) dL_step_249)
  · replace h := h.2 c22
    refine lv_aload_n hx hb dL_step_183 rfl (lv_at hl 1 rfl) ?_
    refine lv_iload hx hb dL_step_184 (lv_at hl 3 rfl) ?_
    refine lv_iload hx hb dL_step_186 (lv_at hl 4 rfl) ?_
    refine lv_iload hx hb dL_step_188 (lv_at hl 5 rfl) ?_
    obtain ⟨c23, s24, g25, g26, h⟩ := h
    refine xt_i (vx_runSX (As := [.ref l1, .int l6, .int l8, .int l9]) (rest := []) ⟨hx, hb, hml, hown, hts⟩ (mt_L_put l hl9 G base h) (vx_cwSW 4 hts gL_step_L_put rfl rfl rfl (by decide +kernel) ⟨Nat.le_of_ble_eq_true rfl, Nat.le_of_ble_eq_true rfl⟩) (xp_S hbase hh hK hX hS) rfl rfl hl.1 rfl (lv_room (Nat.le_of_ble_eq_true rfl)) dL_step_190 ⟨by show _ ≤ MC; omega, by show _ ≤ MS; omega⟩) hS (fun k9 m9 H locs q9 ce h hh hS hc9 hv9 hcl9 => h.elim) (fun r27 m28 H locs h hh hS => ?_)
    obtain ⟨kc29, ekc29⟩ : ∃ z : Nat, z = kc18 - c23 := ⟨_, rfl⟩
    obtain ⟨ks30, eks30⟩ : ∃ z : Nat, z = ks19 - s24 := ⟨_, rfl⟩
    replace h := h kc29 ks30 ekc29 eks30
    obtain ⟨cl31, ecl31⟩ : ∃ z : Nat, z = cl20 + c23 := ⟨_, rfl⟩
    obtain ⟨sl32, esl32⟩ : ∃ z : Nat, z = sl21 + s24 := ⟨_, rfl⟩
    refine W_cs ecl31 esl32 ?_
    have hcc : cl31 + kc29 ≤ MC := by omega
    have hss : sl32 + ks30 ≤ MS := by omega
    refine lv_if_lt (tgt := 200) hx hb dL_step_193 (by decide) (fun c33 => ?_) (fun c33 => ?_)
    · replace h := h.1 c33
      refine lv_iconst (v := 0) hx hb dL_step_200 (by decide) ?_
      exact bk_L_step_201 C0 hl9  _ _ _ _ _ _ _ _ _ _ cl31 sl32 kc29 ks30 hcc hss h hh hS (lv_sub hl [0, 1, 3, 4, 5] rfl)
    · replace h := h.2 c33
      refine lv_iconst (v := 1) hx hb dL_step_196 (by decide) ?_
      refine lv_goto (tgt := 201) hx hb dL_step_197 (by decide) ?_
      exact bk_L_step_201 C0 hl9  _ _ _ _ _ _ _ _ _ _ cl31 sl32 kc29 ks30 hcc hss h hh hS (lv_sub hl [0, 1, 3, 4, 5] rfl)

set_option maxHeartbeats 4000000 in
set_option maxRecDepth 100000 in
theorem bk_L_step_279 {p : Program} {l : Launch} {e : Env} {s : State} {m : MethodId} {args : Array Value} {below : List Frame} {meth : Method} {c : Code} {G : GG} {base : Nat} {MC MS : Nat} (C0 : BC p s m args meth c G base RL cL_step 13 (some .boolean) wsL_step) (hl9 : l.stackTraces = false) {Q : Int32 → MM → Prop} : ∀ (l3 : Int32) (l4 : Int32) (l7 : Int32) (s0 : Int32) (s1 : Int32) (s2 : Int32) (s3 : Int32) (s4 : Int32) (s5 : Int32) (s6 : Nat) (s7 : Nat) (m0 : MM) (H : Heap) (locs : List Loc) (ls : Array Slot) (cl9 sl9 kc ks : Nat) (hcc : cl9 + kc ≤ MC) (hss : sl9 + ks ≤ MS), wp_L_step_279 Q l3 l4 l7 s0 s1 s2 s3 s4 s5 s6 s7 m0 kc ks → hp G (xA base) m0 H → va_S (xA base) s.heap H locs → lv_has ls 13 [(3, .int l3), (4, .int l4), (7, .int l7)] → W p l e ({ frames := 13, cells := MC, slots := MS, locals := 266 } : Room) s m args below meth c H locs cl9 sl9 (MQ below (va_Qi Q (HB G base) (xA base)) args s MC MS (xA base)) (F0 m 279 ls [.int s0, .int s1, .int s2, .int s3, .int s4, .int s5, .ref s6, .ref s7]) := by
  obtain ⟨hx, hb, hr, hml, hown, hts, hlocks, hK, hbase, hX⟩ := id C0
  intro l3 l4 l7 s0 s1 s2 s3 s4 s5 s6 s7 m0 H locs ls cl9 sl9 kc ks hcc hss h hh hS hl
  unfold wp_L_step_279 at h
  obtain ⟨g54, h⟩ := h
  refine lv_irem hx hb dL_step_279 g54 ?_
  refine lv_iadd hx hb dL_step_280 ?_
  refine lv_iload_n hx hb dL_step_281 rfl (lv_at hl 0 rfl) ?_
  refine lv_bipush (v := 7) hx hb dL_step_282 (by decide) ?_
  refine lv_idiv hx hb dL_step_284 (by decide) ?_
  refine lv_sipush (v := 2001) hx hb dL_step_285 (by decide) ?_
  refine lv_irem hx hb dL_step_288 (by decide) ?_
  refine lv_sipush (v := 1000) hx hb dL_step_289 (by decide) ?_
  refine lv_isub hx hb dL_step_292 ?_
  refine lv_iconst (v := 1) hx hb dL_step_293 (by decide) ?_
  refine lv_iload hx hb dL_step_294 (lv_at hl 1 rfl) ?_
  refine lv_bipush (v := 11) hx hb dL_step_296 (by decide) ?_
  refine lv_idiv hx hb dL_step_298 (by decide) ?_
  refine lv_bipush (v := 20) hx hb dL_step_299 (by decide) ?_
  refine lv_irem hx hb dL_step_301 (by decide) ?_
  refine lv_iadd hx hb dL_step_302 ?_
  refine lv_iload hx hb dL_step_303 (lv_at hl 2 rfl) ?_
  obtain ⟨c55, s56, g57, g58, h⟩ := h
  refine xc_i (va_runS (As := [.ref s7, .ref s6, .int s5, .int s4, .int s3, .int (s2 + (s1 - s1 / s0 * s0)), .int (((l3 / (7 : Int32)) - (l3 / (7 : Int32)) / (2001 : Int32) * (2001 : Int32)) - (1000 : Int32)), .int ((1 : Int32) + ((l4 / (11 : Int32)) - (l4 / (11 : Int32)) / (20 : Int32) * (20 : Int32))), .int l7]) (rest := []) ⟨hx, hb, hml, hown, hts⟩ (mt_L_writesMany l hl9 G base h) (va_cwS 9 hts gL_step_L_writesMany rfl rfl rfl (by decide +kernel) ⟨Nat.le_of_ble_eq_true rfl, Nat.le_of_ble_eq_true rfl⟩) (xp_S hbase hh hK hX hS) rfl rfl hl.1 rfl (lv_room (Nat.le_of_ble_eq_true rfl)) dL_step_305 ⟨by show _ ≤ MC; omega, by show _ ≤ MS; omega⟩) hS (fun r59 m60 H locs h hh hS => ?_)
  obtain ⟨kc61, ekc61⟩ : ∃ z : Nat, z = kc - c55 := ⟨_, rfl⟩
  obtain ⟨ks62, eks62⟩ : ∃ z : Nat, z = ks - s56 := ⟨_, rfl⟩
  replace h := h kc61 ks62 ekc61 eks62
  obtain ⟨cl63, ecl63⟩ : ∃ z : Nat, z = cl9 + c55 := ⟨_, rfl⟩
  obtain ⟨sl64, esl64⟩ : ∃ z : Nat, z = sl9 + s56 := ⟨_, rfl⟩
  refine W_cs ecl63 esl64 ?_
  have hcc : cl63 + kc61 ≤ MC := by omega
  have hss : sl64 + ks62 ≤ MS := by omega
  exact (xe_z hx hb hr hlocks hbase hh hK hX hS h.1 h.2 (by omega) (by omega) dL_step_308)

set_option maxHeartbeats 4000000 in
set_option maxRecDepth 100000 in
theorem bk_L_step_250 {p : Program} {l : Launch} {e : Env} {s : State} {m : MethodId} {args : Array Value} {below : List Frame} {meth : Method} {c : Code} {G : GG} {base : Nat} {MC MS : Nat} (C0 : BC p s m args meth c G base RL cL_step 13 (some .boolean) wsL_step) (hl9 : l.stackTraces = false) {Q : Int32 → MM → Prop} : ∀ (l0 : Nat) (l1 : Nat) (l3 : Int32) (l4 : Int32) (l6 : Int32) (l7 : Int32) (l8 : Int32) (l9 : Int32) (m0 : MM) (H : Heap) (locs : List Loc) (ls : Array Slot) (cl9 sl9 kc ks : Nat) (hcc : cl9 + kc ≤ MC) (hss : sl9 + ks ≤ MS), wp_L_step_250 Q l0 l1 l3 l4 l6 l7 l8 l9 m0 kc ks → hp G (xA base) m0 H → va_S (xA base) s.heap H locs → lv_has ls 13 [(0, .ref l0), (1, .ref l1), (3, .int l3), (4, .int l4), (6, .int l6), (7, .int l7), (8, .int l8), (9, .int l9)] → W p l e ({ frames := 13, cells := MC, slots := MS, locals := 266 } : Room) s m args below meth c H locs cl9 sl9 (MQ below (va_Qi Q (HB G base) (xA base)) args s MC MS (xA base)) (F0 m 250 ls []) := by
  obtain ⟨hx, hb, hr, hml, hown, hts, hlocks, hK, hbase, hX⟩ := id C0
  intro l0 l1 l3 l4 l6 l7 l8 l9 m0 H locs ls cl9 sl9 kc ks hcc hss h hh hS hl
  unfold wp_L_step_250 at h
  refine lv_aload_n hx hb dL_step_250 rfl (lv_at hl 0 rfl) ?_
  refine lv_aload_n hx hb dL_step_251 rfl (lv_at hl 1 rfl) ?_
  refine lv_iload hx hb dL_step_252 (lv_at hl 4 rfl) ?_
  refine lv_iload hx hb dL_step_254 (lv_at hl 6 rfl) ?_
  refine lv_iload hx hb dL_step_256 (lv_at hl 7 rfl) ?_
  refine lv_iconst (v := 1) hx hb dL_step_258 (by decide) ?_
  refine lv_iload hx hb dL_step_259 (lv_at hl 3 rfl) ?_
  refine lv_bipush (v := 9) hx hb dL_step_261 (by decide) ?_
  refine lv_idiv hx hb dL_step_263 (by decide) ?_
  refine lv_iload hx hb dL_step_264 (lv_at hl 3 rfl) ?_
  refine lv_iconst (v := 2) hx hb dL_step_266 (by decide) ?_
  refine lv_irem hx hb dL_step_267 (by decide) ?_
  refine lv_if_ne (tgt := 276) hx hb dL_step_268 (by decide) (fun c53 => ?_) (fun c53 => ?_)
  · replace h := h.1 c53
    refine lv_sipush (v := 900) hx hb dL_step_276 (by decide) ?_
    exact bk_L_step_279 C0 hl9  _ _ _ _ _ _ _ _ _ _ _ _ _ _ _ cl9 sl9 kc ks hcc hss h hh hS (lv_sub hl [2, 3, 5] rfl)
  · replace h := h.2 c53
    refine lv_bipush (v := 100) hx hb dL_step_271 (by decide) ?_
    refine lv_goto (tgt := 279) hx hb dL_step_273 (by decide) ?_
    exact bk_L_step_279 C0 hl9  _ _ _ _ _ _ _ _ _ _ _ _ _ _ _ cl9 sl9 kc ks hcc hss h hh hS (lv_sub hl [2, 3, 5] rfl)

set_option maxHeartbeats 4000000 in
set_option maxRecDepth 100000 in
theorem bk_L_step_309 {p : Program} {l : Launch} {e : Env} {s : State} {m : MethodId} {args : Array Value} {below : List Frame} {meth : Method} {c : Code} {G : GG} {base : Nat} {MC MS : Nat} (C0 : BC p s m args meth c G base RL cL_step 13 (some .boolean) wsL_step) (hl9 : l.stackTraces = false) {Q : Int32 → MM → Prop} : ∀ (l0 : Nat) (l1 : Nat) (l6 : Int32) (l8 : Int32) (l9 : Int32) (m0 : MM) (H : Heap) (locs : List Loc) (ls : Array Slot) (cl9 sl9 kc ks : Nat) (hcc : cl9 + kc ≤ MC) (hss : sl9 + ks ≤ MS), wp_L_step_309 Q l0 l1 l6 l8 l9 m0 kc ks → hp G (xA base) m0 H → va_S (xA base) s.heap H locs → lv_has ls 13 [(0, .ref l0), (1, .ref l1), (6, .int l6), (8, .int l8), (9, .int l9)] → W p l e ({ frames := 13, cells := MC, slots := MS, locals := 266 } : Room) s m args below meth c H locs cl9 sl9 (MQ below (va_Qi Q (HB G base) (xA base)) args s MC MS (xA base)) (F0 m 309 ls []) := by
  obtain ⟨hx, hb, hr, hml, hown, hts, hlocks, hK, hbase, hX⟩ := id C0
  intro l0 l1 l6 l8 l9 m0 H locs ls cl9 sl9 kc ks hcc hss h hh hS hl
  unfold wp_L_step_309 at h
  refine lv_aload_n hx hb dL_step_309 rfl (lv_at hl 0 rfl) ?_
  refine lv_iload hx hb dL_step_310 (lv_at hl 2 rfl) ?_
  refine lv_iload hx hb dL_step_312 (lv_at hl 3 rfl) ?_
  refine lv_iload hx hb dL_step_314 (lv_at hl 4 rfl) ?_
  obtain ⟨c65, s66, g67, g68, h⟩ := h
  refine xc_i (va_runS (As := [.ref l0, .int l6, .int l8, .int l9]) (rest := []) ⟨hx, hb, hml, hown, hts⟩ (mt_L_tries l hl9 G base h) (va_cwS 4 hts gL_step_L_tries rfl rfl rfl (by decide +kernel) ⟨Nat.le_of_ble_eq_true rfl, Nat.le_of_ble_eq_true rfl⟩) (xp_S hbase hh hK hX hS) rfl rfl hl.1 rfl (lv_room (Nat.le_of_ble_eq_true rfl)) dL_step_316 ⟨by show _ ≤ MC; omega, by show _ ≤ MS; omega⟩) hS (fun r69 m70 H locs h hh hS => ?_)
  obtain ⟨kc71, ekc71⟩ : ∃ z : Nat, z = kc - c65 := ⟨_, rfl⟩
  obtain ⟨ks72, eks72⟩ : ∃ z : Nat, z = ks - s66 := ⟨_, rfl⟩
  replace h := h kc71 ks72 ekc71 eks72
  obtain ⟨cl73, ecl73⟩ : ∃ z : Nat, z = cl9 + c65 := ⟨_, rfl⟩
  obtain ⟨sl74, esl74⟩ : ∃ z : Nat, z = sl9 + s66 := ⟨_, rfl⟩
  refine W_cs ecl73 esl74 ?_
  have hcc : cl73 + kc71 ≤ MC := by omega
  have hss : sl74 + ks72 ≤ MS := by omega
  refine lv_if_eq (tgt := 342) hx hb dL_step_319 (by decide) (fun c75 => ?_) (fun c75 => ?_)
  · replace h := h.1 c75
    refine lv_iconst (v := 0) hx hb dL_step_342 (by decide) ?_
    exact (xe_z hx hb hr hlocks hbase hh hK hX hS (Or.inl rfl) h (by omega) (by omega) dL_step_343)
  · replace h := h.2 c75
    refine lv_aload_n hx hb dL_step_322 rfl (lv_at hl 1 rfl) ?_
    refine lv_iload hx hb dL_step_323 (lv_at hl 2 rfl) ?_
    refine xc_l (va_runS (As := [.ref l1, .int l6]) (rest := []) ⟨hx, hb, hml, hown, hts⟩ (mt_L_tale l hl9 G base h) (va_cwS 2 hts gL_step_L_tale rfl rfl rfl (by decide +kernel) ⟨Nat.le_of_ble_eq_true rfl, Nat.le_of_ble_eq_true rfl⟩) (xp_S hbase hh hK hX hS) rfl rfl hl.1 rfl (lv_room (Nat.le_of_ble_eq_true rfl)) dL_step_325 ⟨by show _ ≤ MC; omega, by show _ ≤ MS; omega⟩) hS (fun r76 m77 H locs h hh hS => ?_)
    refine lv_aload_n hx hb dL_step_328 rfl (lv_at hl 0 rfl) ?_
    refine lv_iload hx hb dL_step_329 (lv_at hl 2 rfl) ?_
    refine xc_l (va_runS (As := [.ref l0, .int l6]) (rest := [.long r76]) ⟨hx, hb, hml, hown, hts⟩ (mt_L_tale l hl9 G base h) (va_cwS 2 hts gL_step_L_tale rfl rfl rfl (by decide +kernel) ⟨Nat.le_of_ble_eq_true rfl, Nat.le_of_ble_eq_true rfl⟩) (xp_S hbase hh hK hX hS) rfl rfl hl.1 rfl (lv_room (Nat.le_of_ble_eq_true rfl)) dL_step_331 ⟨by show _ ≤ MC; omega, by show _ ≤ MS; omega⟩) hS (fun r78 m79 H locs h hh hS => ?_)
    refine W.lcmp hx hb dL_step_334 ?_
    refine lv_if_ne (tgt := 342) hx hb dL_step_335 (by decide) (fun c80 => ?_) (fun c80 => ?_)
    · replace h := h.1 c80
      refine lv_iconst (v := 0) hx hb dL_step_342 (by decide) ?_
      exact (xe_z hx hb hr hlocks hbase hh hK hX hS (Or.inl rfl) h (by omega) (by omega) dL_step_343)
    · replace h := h.2 c80
      refine lv_iconst (v := 1) hx hb dL_step_338 (by decide) ?_
      refine lv_goto (tgt := 343) hx hb dL_step_339 (by decide) ?_
      exact (xe_z hx hb hr hlocks hbase hh hK hX hS (Or.inr rfl) h (by omega) (by omega) dL_step_343)

set_option maxHeartbeats 4000000 in
set_option maxRecDepth 100000 in
theorem bk_L_step_389 {p : Program} {l : Launch} {e : Env} {s : State} {m : MethodId} {args : Array Value} {below : List Frame} {meth : Method} {c : Code} {G : GG} {base : Nat} {MC MS : Nat} (C0 : BC p s m args meth c G base RL cL_step 13 (some .boolean) wsL_step) (hl9 : l.stackTraces = false) {Q : Int32 → MM → Prop} : ∀ (l0 : Nat) (l1 : Nat) (l6 : Int32) (l10 : Int32) (s0 : Int32) (m0 : MM) (H : Heap) (locs : List Loc) (ls : Array Slot) (cl9 sl9 kc ks : Nat) (hcc : cl9 + kc ≤ MC) (hss : sl9 + ks ≤ MS), wp_L_step_389 Q l0 l1 l6 l10 s0 m0 kc ks → hp G (xA base) m0 H → va_S (xA base) s.heap H locs → lv_has ls 13 [(0, .ref l0), (1, .ref l1), (6, .int l6), (10, .int l10)] → W p l e ({ frames := 13, cells := MC, slots := MS, locals := 266 } : Room) s m args below meth c H locs cl9 sl9 (MQ below (va_Qi Q (HB G base) (xA base)) args s MC MS (xA base)) (F0 m 389 ls [.int s0]) := by
  obtain ⟨hx, hb, hr, hml, hown, hts, hlocks, hK, hbase, hX⟩ := id C0
  intro l0 l1 l6 l10 s0 m0 H locs ls cl9 sl9 kc ks hcc hss h hh hS hl
  unfold wp_L_step_389 at h
  have q1 : (Cond.constant RL 31 (-2000000)).before _ s = true := hts _ (List.mem_cons_of_mem _ (List.mem_append_left _ (List.mem_append_left _ (List.mem_append_left _ (List.mem_append_left _ (List.mem_append_left _ (List.mem_append_left _ (List.mem_append_left _ (List.mem_append_left _ (List.mem_append_left _ (List.mem_of_getElem? (i := 1) rfl)))))))))))
  refine lv_istore (lv' := [(11, .int s0), (0, .ref l0), (1, .ref l1), (6, .int l6), (10, .int l10)]) hx hb dL_step_389 hl (by decide) rfl (fun ls hl => ?_)
  refine lv_iload hx hb dL_step_391 (lv_at hl 4 rfl) ?_
  refine lv_if_eq (tgt := 409) hx hb dL_step_393 (by decide) (fun c90 => ?_) (fun c90 => ?_)
  · replace h := h.1 c90
    refine lv_iconst (v := 1) hx hb dL_step_409 (by decide) ?_
    exact (xe_z hx hb hr hlocks hbase hh hK hX hS (Or.inr rfl) h (by omega) (by omega) dL_step_410)
  · replace h := h.2 c90
    refine lv_iload hx hb dL_step_396 (lv_at hl 0 rfl) ?_
    refine lv_aload_n hx hb dL_step_398 rfl (lv_at hl 1 rfl) ?_
    obtain ⟨g91, h⟩ := h
    refine xc_i (va_runV (As := []) (rest := [.int s0]) ⟨hx, hb, hml, hown, hts⟩ (mt_X5_clock l G base h) (cwV 0 hts gL_step_X5_clock rfl rfl rfl (by decide +kernel) ⟨Nat.le_of_ble_eq_true rfl, Nat.le_of_ble_eq_true rfl⟩) (xp_V hbase hh hK hX hS (ci := 5) g91 (by decide) rfl) rfl rfl hl.1 rfl (lv_room (Nat.le_of_ble_eq_true rfl)) dL_step_399 ⟨by show _ ≤ MC; omega, by show _ ≤ MS; omega⟩) hS (fun r92 m93 H locs h hh hS => ?_)
    refine lv_sipush (v := 3600) hx hb dL_step_402 (by decide) ?_
    refine lv_isub hx hb dL_step_405 ?_
    refine lv_icmp_ge (tgt := 411) hx hb dL_step_406 (by decide) (fun c94 => ?_) (fun c94 => ?_)
    · replace h := h.1 c94
      refine lv_aload_n hx hb dL_step_411 rfl (lv_at hl 1 rfl) ?_
      refine lv_iload hx hb dL_step_412 (lv_at hl 3 rfl) ?_
      refine lv_iload hx hb dL_step_414 (lv_at hl 0 rfl) ?_
      obtain ⟨g95, h⟩ := h
      refine xc_i (va_runV (As := [.int l6, .int s0]) (rest := []) ⟨hx, hb, hml, hown, hts⟩ (mtq_X5_valueAt l G base h) (cwV 2 hts gL_step_X5_valueAt rfl rfl rfl (by decide +kernel) ⟨Nat.le_of_ble_eq_true rfl, Nat.le_of_ble_eq_true rfl⟩) (xp_V hbase hh hK hX hS (ci := 5) g95 (by decide) rfl) rfl rfl hl.1 rfl (lv_room (Nat.le_of_ble_eq_true rfl)) dL_step_416 ⟨by show _ ≤ MC; omega, by show _ ≤ MS; omega⟩) hS (fun r96 m97 H locs h hh hS => ?_)
      refine lv_istore (lv' := [(12, .int r96), (11, .int s0), (0, .ref l0), (1, .ref l1), (6, .int l6), (10, .int l10)]) hx hb dL_step_419 hl (by decide) rfl (fun ls hl => ?_)
      refine lv_aload_n hx hb dL_step_421 rfl (lv_at hl 2 rfl) ?_
      refine lv_iload hx hb dL_step_422 (lv_at hl 4 rfl) ?_
      refine lv_iload hx hb dL_step_424 (lv_at hl 1 rfl) ?_
      obtain ⟨c98, s99, g100, g101, h⟩ := h
      obtain ⟨g102, h⟩ := h
      refine xc_i (va_runV (As := [.int l6, .int s0]) (rest := []) ⟨hx, hb, hml, hown, hts⟩ (mtq_X5_erase l G base h) (cwV 2 hts gL_step_X5_erase rfl rfl rfl (by decide +kernel) ⟨Nat.le_of_ble_eq_true rfl, Nat.le_of_ble_eq_true rfl⟩) (xp_V hbase hh hK hX hS (ci := 5) g102 (by decide) rfl) rfl rfl hl.1 rfl (lv_room (Nat.le_of_ble_eq_true rfl)) dL_step_426 ⟨by show _ ≤ MC; omega, by show _ ≤ MS; omega⟩) hS (fun r103 m104 H locs h hh hS => ?_)
      obtain ⟨kc105, ekc105⟩ : ∃ z : Nat, z = kc - c98 := ⟨_, rfl⟩
      obtain ⟨ks106, eks106⟩ : ∃ z : Nat, z = ks - s99 := ⟨_, rfl⟩
      replace h := h kc105 ks106 ekc105 eks106
      obtain ⟨cl107, ecl107⟩ : ∃ z : Nat, z = cl9 + c98 := ⟨_, rfl⟩
      obtain ⟨sl108, esl108⟩ : ∃ z : Nat, z = sl9 + s99 := ⟨_, rfl⟩
      refine W_cs ecl107 esl108 ?_
      have hcc : cl107 + kc105 ≤ MC := by omega
      have hss : sl108 + ks106 ≤ MS := by omega
      refine lv_iload hx hb dL_step_429 (lv_at hl 0 rfl) ?_
      refine lv_icmp_ne (tgt := 478) hx hb dL_step_431 (by decide) (fun c109 => ?_) (fun c109 => ?_)
      · replace h := h.1 c109
        refine lv_iconst (v := 0) hx hb dL_step_478 (by decide) ?_
        exact (xe_z hx hb hr hlocks hbase hh hK hX hS (Or.inl rfl) h (by omega) (by omega) dL_step_479)
      · replace h := h.2 c109
        refine lv_aload_n hx hb dL_step_434 rfl (lv_at hl 3 rfl) ?_
        refine lv_iload hx hb dL_step_435 (lv_at hl 4 rfl) ?_
        refine lv_iload hx hb dL_step_437 (lv_at hl 1 rfl) ?_
        obtain ⟨c110, s111, g112, g113, h⟩ := h
        obtain ⟨g114, h⟩ := h
        refine xc_i (va_runV (As := [.int l6, .int s0]) (rest := []) ⟨hx, hb, hml, hown, hts⟩ (mtq_X5_erase l G base h) (cwV 2 hts gL_step_X5_erase rfl rfl rfl (by decide +kernel) ⟨Nat.le_of_ble_eq_true rfl, Nat.le_of_ble_eq_true rfl⟩) (xp_V hbase hh hK hX hS (ci := 5) g114 (by decide) rfl) rfl rfl hl.1 rfl (lv_room (Nat.le_of_ble_eq_true rfl)) dL_step_439 ⟨by show _ ≤ MC; omega, by show _ ≤ MS; omega⟩) hS (fun r115 m116 H locs h hh hS => ?_)
        obtain ⟨kc117, ekc117⟩ : ∃ z : Nat, z = kc105 - c110 := ⟨_, rfl⟩
        obtain ⟨ks118, eks118⟩ : ∃ z : Nat, z = ks106 - s111 := ⟨_, rfl⟩
        replace h := h kc117 ks118 ekc117 eks118
        obtain ⟨cl119, ecl119⟩ : ∃ z : Nat, z = cl107 + c110 := ⟨_, rfl⟩
        obtain ⟨sl120, esl120⟩ : ∃ z : Nat, z = sl108 + s111 := ⟨_, rfl⟩
        refine W_cs ecl119 esl120 ?_
        have hcc : cl119 + kc117 ≤ MC := by omega
        have hss : sl120 + ks118 ≤ MS := by omega
        refine lv_iload hx hb dL_step_442 (lv_at hl 0 rfl) ?_
        refine lv_icmp_ne (tgt := 478) hx hb dL_step_444 (by decide) (fun c121 => ?_) (fun c121 => ?_)
        · replace h := h.1 c121
          refine lv_iconst (v := 0) hx hb dL_step_478 (by decide) ?_
          exact (xe_z hx hb hr hlocks hbase hh hK hX hS (Or.inl rfl) h (by omega) (by omega) dL_step_479)
        · replace h := h.2 c121
          refine lv_aload_n hx hb dL_step_447 rfl (lv_at hl 2 rfl) ?_
          refine lv_iload hx hb dL_step_448 (lv_at hl 4 rfl) ?_
          refine lv_iload hx hb dL_step_450 (lv_at hl 1 rfl) ?_
          obtain ⟨g122, g123, h⟩ := h
          refine xt_i (vx_runSX (As := [.ref l0, .int l6, .int s0]) (rest := []) ⟨hx, hb, hml, hown, hts⟩ (mt_L_valueAt l hl9 G base h) (vx_cwSW 3 hts gL_step_L_valueAt rfl rfl rfl (by decide +kernel) ⟨Nat.le_of_ble_eq_true rfl, Nat.le_of_ble_eq_true rfl⟩) (xp_S hbase hh hK hX hS) rfl rfl hl.1 rfl (lv_room (Nat.le_of_ble_eq_true rfl)) dL_step_452 ⟨by show _ ≤ MC; omega, by show _ ≤ MS; omega⟩) hS (fun k9 m9 H locs q9 ce h hh hS hc9 hv9 hcl9 => h.elim) (fun r124 m125 H locs h hh hS => ?_)
          obtain ⟨kc126, ekc126⟩ : ∃ z : Nat, z = kc117 - 2 := ⟨_, rfl⟩
          obtain ⟨ks127, eks127⟩ : ∃ z : Nat, z = ks118 - 12 := ⟨_, rfl⟩
          replace h := h kc126 ks127 ekc126 eks127
          obtain ⟨cl128, ecl128⟩ : ∃ z : Nat, z = cl119 + 2 := ⟨_, rfl⟩
          obtain ⟨sl129, esl129⟩ : ∃ z : Nat, z = sl120 + 12 := ⟨_, rfl⟩
          refine W_cs ecl128 esl129 ?_
          have hcc : cl128 + kc126 ≤ MC := by omega
          have hss : sl129 + ks127 ≤ MS := by omega
          refine lv_ldc hx hb hown q1 dL_step_455 ?_
          refine lv_icmp_ne (tgt := 478) hx hb dL_step_457 (by decide) (fun c130 => ?_) (fun c130 => ?_)
          · replace h := h.1 c130
            refine lv_iconst (v := 0) hx hb dL_step_478 (by decide) ?_
            exact (xe_z hx hb hr hlocks hbase hh hK hX hS (Or.inl rfl) h (by omega) (by omega) dL_step_479)
          · replace h := h.2 c130
            refine lv_aload_n hx hb dL_step_460 rfl (lv_at hl 2 rfl) ?_
            refine lv_iload hx hb dL_step_461 (lv_at hl 4 rfl) ?_
            refine lv_iconst (v := 0) hx hb dL_step_463 (by decide) ?_
            obtain ⟨g131, h⟩ := h
            refine xc_i (va_runV (As := [.int l6, .int (0 : Int32)]) (rest := []) ⟨hx, hb, hml, hown, hts⟩ (mtq_X5_rows l G base h) (cwV 2 hts gL_step_X5_rows rfl rfl rfl (by decide +kernel) ⟨Nat.le_of_ble_eq_true rfl, Nat.le_of_ble_eq_true rfl⟩) (xp_V hbase hh hK hX hS (ci := 5) g131 (by decide) rfl) rfl rfl hl.1 rfl (lv_room (Nat.le_of_ble_eq_true rfl)) dL_step_464 ⟨by show _ ≤ MC; omega, by show _ ≤ MS; omega⟩) hS (fun r132 m133 H locs h hh hS => ?_)
            refine lv_iload hx hb dL_step_467 (lv_at hl 5 rfl) ?_
            refine lv_iconst (v := 1) hx hb dL_step_469 (by decide) ?_
            refine lv_isub hx hb dL_step_470 ?_
            refine lv_icmp_ne (tgt := 478) hx hb dL_step_471 (by decide) (fun c134 => ?_) (fun c134 => ?_)
            · replace h := h.1 c134
              refine lv_iconst (v := 0) hx hb dL_step_478 (by decide) ?_
              exact (xe_z hx hb hr hlocks hbase hh hK hX hS (Or.inl rfl) h (by omega) (by omega) dL_step_479)
            · replace h := h.2 c134
              refine lv_iconst (v := 1) hx hb dL_step_474 (by decide) ?_
              refine lv_goto (tgt := 479) hx hb dL_step_475 (by decide) ?_
              exact (xe_z hx hb hr hlocks hbase hh hK hX hS (Or.inr rfl) h (by omega) (by omega) dL_step_479)
    · replace h := h.2 c94
      refine lv_iconst (v := 1) hx hb dL_step_409 (by decide) ?_
      exact (xe_z hx hb hr hlocks hbase hh hK hX hS (Or.inr rfl) h (by omega) (by omega) dL_step_410)

set_option maxHeartbeats 4000000 in
set_option maxRecDepth 100000 in
theorem bk_L_step_384 {p : Program} {l : Launch} {e : Env} {s : State} {m : MethodId} {args : Array Value} {below : List Frame} {meth : Method} {c : Code} {G : GG} {base : Nat} {MC MS : Nat} (C0 : BC p s m args meth c G base RL cL_step 13 (some .boolean) wsL_step) (hl9 : l.stackTraces = false) {Q : Int32 → MM → Prop} : ∀ (l0 : Nat) (l1 : Nat) (l6 : Int32) (l10 : Int32) (s0 : Int32) (s1 : Int32) (s2 : Int32) (s3 : Int32) (s4 : Int32) (s5 : Nat) (m0 : MM) (H : Heap) (locs : List Loc) (ls : Array Slot) (cl9 sl9 kc ks : Nat) (hcc : cl9 + kc ≤ MC) (hss : sl9 + ks ≤ MS), wp_L_step_384 Q l0 l1 l6 l10 s0 s1 s2 s3 s4 s5 m0 kc ks → hp G (xA base) m0 H → va_S (xA base) s.heap H locs → lv_has ls 13 [(0, .ref l0), (1, .ref l1), (6, .int l6), (10, .int l10)] → W p l e ({ frames := 13, cells := MC, slots := MS, locals := 266 } : Room) s m args below meth c H locs cl9 sl9 (MQ below (va_Qi Q (HB G base) (xA base)) args s MC MS (xA base)) (F0 m 384 ls [.int s0, .int s1, .int s2, .int s3, .int s4, .ref s5]) := by
  obtain ⟨hx, hb, hr, hml, hown, hts, hlocks, hK, hbase, hX⟩ := id C0
  intro l0 l1 l6 l10 s0 s1 s2 s3 s4 s5 m0 H locs ls cl9 sl9 kc ks hcc hss h hh hS hl
  unfold wp_L_step_384 at h
  obtain ⟨g86, h⟩ := h
  refine lv_irem hx hb dL_step_384 g86 ?_
  refine lv_isub hx hb dL_step_385 ?_
  obtain ⟨g87, h⟩ := h
  refine xc_i (va_runV (As := [.int s4, .int s3, .int (s2 - (s1 - s1 / s0 * s0))]) (rest := []) ⟨hx, hb, hml, hown, hts⟩ (mtq_X5_timeOf l G base h) (cwV 3 hts gL_step_X5_timeOf rfl rfl rfl (by decide +kernel) ⟨Nat.le_of_ble_eq_true rfl, Nat.le_of_ble_eq_true rfl⟩) (xp_V hbase hh hK hX hS (ci := 5) g87 (by decide) rfl) rfl rfl hl.1 rfl (lv_room (Nat.le_of_ble_eq_true rfl)) dL_step_386 ⟨by show _ ≤ MC; omega, by show _ ≤ MS; omega⟩) hS (fun r88 m89 H locs h hh hS => ?_)
  exact bk_L_step_389 C0 hl9  _ _ _ _ _ _ _ _ _ cl9 sl9 kc ks hcc hss h hh hS (lv_sub hl [0, 1, 2, 3] rfl)

set_option maxHeartbeats 4000000 in
set_option maxRecDepth 100000 in
theorem bk_L_step_344 {p : Program} {l : Launch} {e : Env} {s : State} {m : MethodId} {args : Array Value} {below : List Frame} {meth : Method} {c : Code} {G : GG} {base : Nat} {MC MS : Nat} (C0 : BC p s m args meth c G base RL cL_step 13 (some .boolean) wsL_step) (hl9 : l.stackTraces = false) {Q : Int32 → MM → Prop} : ∀ (l0 : Nat) (l1 : Nat) (l4 : Int32) (l6 : Int32) (m0 : MM) (H : Heap) (locs : List Loc) (ls : Array Slot) (cl9 sl9 kc ks : Nat) (hcc : cl9 + kc ≤ MC) (hss : sl9 + ks ≤ MS), wp_L_step_344 Q l0 l1 l4 l6 m0 kc ks → hp G (xA base) m0 H → va_S (xA base) s.heap H locs → lv_has ls 13 [(0, .ref l0), (1, .ref l1), (4, .int l4), (6, .int l6)] → W p l e ({ frames := 13, cells := MC, slots := MS, locals := 266 } : Room) s m args below meth c H locs cl9 sl9 (MQ below (va_Qi Q (HB G base) (xA base)) args s MC MS (xA base)) (F0 m 344 ls []) := by
  obtain ⟨hx, hb, hr, hml, hown, hts, hlocks, hK, hbase, hX⟩ := id C0
  intro l0 l1 l4 l6 m0 H locs ls cl9 sl9 kc ks hcc hss h hh hS hl
  unfold wp_L_step_344 at h
  refine lv_aload_n hx hb dL_step_344 rfl (lv_at hl 0 rfl) ?_
  refine lv_iload hx hb dL_step_345 (lv_at hl 3 rfl) ?_
  refine lv_iconst (v := 0) hx hb dL_step_347 (by decide) ?_
  obtain ⟨g81, h⟩ := h
  refine xc_i (va_runV (As := [.int l6, .int (0 : Int32)]) (rest := []) ⟨hx, hb, hml, hown, hts⟩ (mtq_X5_rows l G base h) (cwV 2 hts gL_step_X5_rows rfl rfl rfl (by decide +kernel) ⟨Nat.le_of_ble_eq_true rfl, Nat.le_of_ble_eq_true rfl⟩) (xp_V hbase hh hK hX hS (ci := 5) g81 (by decide) rfl) rfl rfl hl.1 rfl (lv_room (Nat.le_of_ble_eq_true rfl)) dL_step_348 ⟨by show _ ≤ MC; omega, by show _ ≤ MS; omega⟩) hS (fun r82 m83 H locs h hh hS => ?_)
  refine lv_istore (lv' := [(10, .int r82), (0, .ref l0), (1, .ref l1), (4, .int l4), (6, .int l6)]) hx hb dL_step_351 hl (by decide) rfl (fun ls hl => ?_)
  refine lv_iload hx hb dL_step_353 (lv_at hl 0 rfl) ?_
  refine lv_if_ne (tgt := 362) hx hb dL_step_355 (by decide) (fun c84 => ?_) (fun c84 => ?_)
  · replace h := h.1 c84
    refine lv_aload_n hx hb dL_step_362 rfl (lv_at hl 1 rfl) ?_
    refine lv_iload hx hb dL_step_363 (lv_at hl 4 rfl) ?_
    refine lv_iconst (v := 0) hx hb dL_step_365 (by decide) ?_
    refine lv_iload hx hb dL_step_366 (lv_at hl 0 rfl) ?_
    refine lv_iconst (v := 1) hx hb dL_step_368 (by decide) ?_
    refine lv_isub hx hb dL_step_369 ?_
    refine lv_iload hx hb dL_step_370 (lv_at hl 3 rfl) ?_
    refine lv_iload hx hb dL_step_372 (lv_at hl 0 rfl) ?_
    refine lv_iconst (v := 5) hx hb dL_step_374 (by decide) ?_
    refine lv_icmp_ge (tgt := 383) hx hb dL_step_375 (by decide) (fun c85 => ?_) (fun c85 => ?_)
    · replace h := h.1 c85
      refine lv_iconst (v := 5) hx hb dL_step_383 (by decide) ?_
      exact bk_L_step_384 C0 hl9  _ _ _ _ _ _ _ _ _ _ _ _ _ _ cl9 sl9 kc ks hcc hss h hh hS (lv_sub hl [1, 2, 4, 0] rfl)
    · replace h := h.2 c85
      refine lv_iload hx hb dL_step_378 (lv_at hl 0 rfl) ?_
      refine lv_goto (tgt := 384) hx hb dL_step_380 (by decide) ?_
      exact bk_L_step_384 C0 hl9  _ _ _ _ _ _ _ _ _ _ _ _ _ _ cl9 sl9 kc ks hcc hss h hh hS (lv_sub hl [1, 2, 4, 0] rfl)
  · replace h := h.2 c84
    refine lv_iconst (v := 0) hx hb dL_step_358 (by decide) ?_
    refine lv_goto (tgt := 389) hx hb dL_step_359 (by decide) ?_
    exact bk_L_step_389 C0 hl9  _ _ _ _ _ _ _ _ _ cl9 sl9 kc ks hcc hss h hh hS (lv_sub hl [1, 2, 4, 0] rfl)

set_option maxHeartbeats 4000000 in
set_option maxRecDepth 100000 in
theorem bk_L_step_480 {p : Program} {l : Launch} {e : Env} {s : State} {m : MethodId} {args : Array Value} {below : List Frame} {meth : Method} {c : Code} {G : GG} {base : Nat} {MC MS : Nat} (C0 : BC p s m args meth c G base RL cL_step 13 (some .boolean) wsL_step) (hl9 : l.stackTraces = false) {Q : Int32 → MM → Prop} : ∀ (l0 : Nat) (l1 : Nat) (l3 : Int32) (l4 : Int32) (l5 : Nat) (m0 : MM) (H : Heap) (locs : List Loc) (ls : Array Slot) (cl9 sl9 kc ks : Nat) (hcc : cl9 + kc ≤ MC) (hss : sl9 + ks ≤ MS), wp_L_step_480 Q l0 l1 l3 l4 l5 m0 kc ks → hp G (xA base) m0 H → va_S (xA base) s.heap H locs → lv_has ls 13 [(0, .ref l0), (1, .ref l1), (3, .int l3), (4, .int l4), (5, .ref l5)] → W p l e ({ frames := 13, cells := MC, slots := MS, locals := 266 } : Room) s m args below meth c H locs cl9 sl9 (MQ below (va_Qi Q (HB G base) (xA base)) args s MC MS (xA base)) (F0 m 480 ls []) := by
  obtain ⟨hx, hb, hr, hml, hown, hts, hlocks, hK, hbase, hX⟩ := id C0
  intro l0 l1 l3 l4 l5 m0 H locs ls cl9 sl9 kc ks hcc hss h hh hS hl
  unfold wp_L_step_480 at h
  refine lv_aload_n hx hb dL_step_480 rfl (lv_at hl 0 rfl) ?_
  refine lv_aload_n hx hb dL_step_481 rfl (lv_at hl 1 rfl) ?_
  refine lv_aload hx hb dL_step_482 (lv_at hl 4 rfl) ?_
  refine lv_iload hx hb dL_step_484 (lv_at hl 3 rfl) ?_
  refine lv_iconst (v := 4) hx hb dL_step_486 (by decide) ?_
  refine lv_irem hx hb dL_step_487 (by decide) ?_
  refine lv_iload_n hx hb dL_step_488 rfl (lv_at hl 2 rfl) ?_
  refine xc_i (va_runS (As := [.ref l0, .ref l1, .ref l5, .int (l4 - l4 / (4 : Int32) * (4 : Int32)), .int l3]) (rest := []) ⟨hx, hb, hml, hown, hts⟩ (mt_L_retains l hl9 G base h) (va_cwS 5 hts gL_step_L_retains rfl rfl rfl (by decide +kernel) ⟨Nat.le_of_ble_eq_true rfl, Nat.le_of_ble_eq_true rfl⟩) (xp_S hbase hh hK hX hS) rfl rfl hl.1 rfl (lv_room (Nat.le_of_ble_eq_true rfl)) dL_step_489 ⟨by show _ ≤ MC; omega, by show _ ≤ MS; omega⟩) hS (fun r135 m136 H locs h hh hS => ?_)
  exact (xe_z hx hb hr hlocks hbase hh hK hX hS h.1 h.2 (by omega) (by omega) dL_step_492)

set_option maxHeartbeats 4000000 in
set_option maxRecDepth 100000 in
theorem bk_L_step_116 {p : Program} {l : Launch} {e : Env} {s : State} {m : MethodId} {args : Array Value} {below : List Frame} {meth : Method} {c : Code} {G : GG} {base : Nat} {MC MS : Nat} (C0 : BC p s m args meth c G base RL cL_step 13 (some .boolean) wsL_step) (hl9 : l.stackTraces = false) {Q : Int32 → MM → Prop} : ∀ (l0 : Nat) (l1 : Nat) (l2 : Int32) (l3 : Int32) (l4 : Int32) (l5 : Nat) (l6 : Int32) (l7 : Int32) (l8 : Int32) (s0 : Int32) (m0 : MM) (H : Heap) (locs : List Loc) (ls : Array Slot) (cl9 sl9 kc ks : Nat) (hcc : cl9 + kc ≤ MC) (hss : sl9 + ks ≤ MS), wp_L_step_116 Q l0 l1 l2 l3 l4 l5 l6 l7 l8 s0 m0 kc ks → hp G (xA base) m0 H → va_S (xA base) s.heap H locs → lv_has ls 13 [(0, .ref l0), (1, .ref l1), (2, .int l2), (3, .int l3), (4, .int l4), (5, .ref l5), (6, .int l6), (7, .int l7), (8, .int l8)] → W p l e ({ frames := 13, cells := MC, slots := MS, locals := 266 } : Room) s m args below meth c H locs cl9 sl9 (MQ below (va_Qi Q (HB G base) (xA base)) args s MC MS (xA base)) (F0 m 116 ls [.int s0]) := by
  obtain ⟨hx, hb, hr, hml, hown, hts, hlocks, hK, hbase, hX⟩ := id C0
  intro l0 l1 l2 l3 l4 l5 l6 l7 l8 s0 m0 H locs ls cl9 sl9 kc ks hcc hss h hh hS hl
  unfold wp_L_step_116 at h
  have q1 : (Cond.constant RL 163 (100000)).before _ s = true := hts _ (List.mem_cons_of_mem _ (List.mem_append_left _ (List.mem_append_left _ (List.mem_append_left _ (List.mem_append_left _ (List.mem_append_left _ (List.mem_append_left _ (List.mem_append_left _ (List.mem_append_left _ (List.mem_append_left _ (List.mem_of_getElem? (i := 2) rfl)))))))))))
  refine lv_istore (lv' := [(9, .int s0), (0, .ref l0), (1, .ref l1), (2, .int l2), (3, .int l3), (4, .int l4), (5, .ref l5), (6, .int l6), (7, .int l7), (8, .int l8)]) hx hb dL_step_116 hl (by decide) rfl (fun ls hl => ?_)
  refine lv_iload_n hx hb dL_step_118 rfl (lv_at hl 3 rfl) ?_
  rcases Classical.em (vp_in l2 9) with hv9 | hv9
  · obtain ⟨j9, hj9, ej9⟩ := vp_in_of hv9 (by decide)
    rcases (show j9 = 0 ∨ j9 = 1 ∨ j9 = 2 ∨ j9 = 3 ∨ j9 = 4 ∨ j9 = 5 ∨ j9 = 6 ∨ j9 = 7 ∨ j9 = 8 by omega) with rfl | rfl | rfl | rfl | rfl | rfl | rfl | rfl | rfl
    · replace h := h.1 ej9
      refine lv_tableIn (tgt := 168) (off := 49) hx hb dL_step_119 (by rw [ej9]; decide) (by rw [ej9]; decide) (by rw [ej9]; decide) (by decide) ?_
      exact bk_L_step_168 C0 hl9  _ _ _ _ _ _ _ _ _ _ cl9 sl9 kc ks hcc hss h hh hS (lv_sub hl [1, 2, 6, 7, 9, 0] rfl)
    · replace h := h.2.1 ej9
      refine lv_tableIn (tgt := 168) (off := 49) hx hb dL_step_119 (by rw [ej9]; decide) (by rw [ej9]; decide) (by rw [ej9]; decide) (by decide) ?_
      exact bk_L_step_168 C0 hl9  _ _ _ _ _ _ _ _ _ _ cl9 sl9 kc ks hcc hss h hh hS (lv_sub hl [1, 2, 6, 7, 9, 0] rfl)
    · replace h := h.2.2.1 ej9
      refine lv_tableIn (tgt := 168) (off := 49) hx hb dL_step_119 (by rw [ej9]; decide) (by rw [ej9]; decide) (by rw [ej9]; decide) (by decide) ?_
      exact bk_L_step_168 C0 hl9  _ _ _ _ _ _ _ _ _ _ cl9 sl9 kc ks hcc hss h hh hS (lv_sub hl [1, 2, 6, 7, 9, 0] rfl)
    · replace h := h.2.2.2.1 ej9
      refine lv_tableIn (tgt := 250) (off := 131) hx hb dL_step_119 (by rw [ej9]; decide) (by rw [ej9]; decide) (by rw [ej9]; decide) (by decide) ?_
      exact bk_L_step_250 C0 hl9  _ _ _ _ _ _ _ _ _ _ _ _ cl9 sl9 kc ks hcc hss h hh hS (lv_sub hl [1, 2, 4, 5, 7, 8, 9, 0] rfl)
    · replace h := h.2.2.2.2.1 ej9
      refine lv_tableIn (tgt := 250) (off := 131) hx hb dL_step_119 (by rw [ej9]; decide) (by rw [ej9]; decide) (by rw [ej9]; decide) (by decide) ?_
      exact bk_L_step_250 C0 hl9  _ _ _ _ _ _ _ _ _ _ _ _ cl9 sl9 kc ks hcc hss h hh hS (lv_sub hl [1, 2, 4, 5, 7, 8, 9, 0] rfl)
    · replace h := h.2.2.2.2.2.1 ej9
      refine lv_tableIn (tgt := 250) (off := 131) hx hb dL_step_119 (by rw [ej9]; decide) (by rw [ej9]; decide) (by rw [ej9]; decide) (by decide) ?_
      exact bk_L_step_250 C0 hl9  _ _ _ _ _ _ _ _ _ _ _ _ cl9 sl9 kc ks hcc hss h hh hS (lv_sub hl [1, 2, 4, 5, 7, 8, 9, 0] rfl)
    · replace h := h.2.2.2.2.2.2.1 ej9
      refine lv_tableIn (tgt := 309) (off := 190) hx hb dL_step_119 (by rw [ej9]; decide) (by rw [ej9]; decide) (by rw [ej9]; decide) (by decide) ?_
      exact bk_L_step_309 C0 hl9  _ _ _ _ _ _ _ _ _ cl9 sl9 kc ks hcc hss h hh hS (lv_sub hl [1, 2, 7, 9, 0] rfl)
    · replace h := h.2.2.2.2.2.2.2.1 ej9
      refine lv_tableIn (tgt := 344) (off := 225) hx hb dL_step_119 (by rw [ej9]; decide) (by rw [ej9]; decide) (by rw [ej9]; decide) (by decide) ?_
      exact bk_L_step_344 C0 hl9  _ _ _ _ _ _ _ _ cl9 sl9 kc ks hcc hss h hh hS (lv_sub hl [1, 2, 5, 7] rfl)
    · replace h := h.2.2.2.2.2.2.2.2.1 ej9
      refine lv_tableIn (tgt := 480) (off := 361) hx hb dL_step_119 (by rw [ej9]; decide) (by rw [ej9]; decide) (by rw [ej9]; decide) (by decide) ?_
      exact bk_L_step_480 C0 hl9  _ _ _ _ _ _ _ _ _ cl9 sl9 kc ks hcc hss h hh hS (lv_sub hl [1, 2, 4, 5, 6] rfl)
  · replace h := h.2.2.2.2.2.2.2.2.2 hv9
    refine lv_tableOut (tgt := 493) hx hb dL_step_119 (xs_out9 hv9) (by decide) ?_
    refine lv_aload_n hx hb dL_step_493 rfl (lv_at hl 1 rfl) ?_
    refine lv_aload_n hx hb dL_step_494 rfl (lv_at hl 2 rfl) ?_
    refine lv_aload hx hb dL_step_495 (lv_at hl 6 rfl) ?_
    refine lv_iconst (v := 1) hx hb dL_step_497 (by decide) ?_
    refine lv_iload hx hb dL_step_498 (lv_at hl 5 rfl) ?_
    refine lv_iconst (v := 5) hx hb dL_step_500 (by decide) ?_
    refine lv_irem hx hb dL_step_501 (by decide) ?_
    refine lv_if_ne (tgt := 512) hx hb dL_step_502 (by decide) (fun c137 => ?_) (fun c137 => ?_)
    · replace h := h.1 c137
      refine lv_iload_n hx hb dL_step_512 rfl (lv_at hl 4 rfl) ?_
      refine lv_sipush (v := 3000) hx hb dL_step_513 (by decide) ?_
      refine lv_irem hx hb dL_step_516 (by decide) ?_
      refine lv_iadd hx hb dL_step_517 ?_
      refine xc_i (va_runS (As := [.ref l0, .ref l1, .ref l5, .int ((1 : Int32) + (l3 - l3 / (3000 : Int32) * (3000 : Int32)))]) (rest := []) ⟨hx, hb, hml, hown, hts⟩ (mt_L_goesOn l hl9 G base h) (va_cwS 4 hts gL_step_L_goesOn rfl rfl rfl (by decide +kernel) ⟨Nat.le_of_ble_eq_true rfl, Nat.le_of_ble_eq_true rfl⟩) (xp_S hbase hh hK hX hS) rfl rfl hl.1 rfl (lv_room (Nat.le_of_ble_eq_true rfl)) dL_step_518 ⟨by show _ ≤ MC; omega, by show _ ≤ MS; omega⟩) hS (fun r138 m139 H locs h hh hS => ?_)
      exact (xe_z hx hb hr hlocks hbase hh hK hX hS h.1 h.2 (by omega) (by omega) dL_step_521)
    · replace h := h.2 c137
      refine lv_iload_n hx hb dL_step_505 rfl (lv_at hl 4 rfl) ?_
      refine lv_ldc hx hb hown q1 dL_step_506 ?_
      refine lv_irem hx hb dL_step_508 (by decide) ?_
      refine lv_goto (tgt := 517) hx hb dL_step_509 (by decide) ?_
      refine lv_iadd hx hb dL_step_517 ?_
      refine xc_i (va_runS (As := [.ref l0, .ref l1, .ref l5, .int ((1 : Int32) + (l3 - l3 / (100000 : Int32) * (100000 : Int32)))]) (rest := []) ⟨hx, hb, hml, hown, hts⟩ (mt_L_goesOn l hl9 G base h) (va_cwS 4 hts gL_step_L_goesOn rfl rfl rfl (by decide +kernel) ⟨Nat.le_of_ble_eq_true rfl, Nat.le_of_ble_eq_true rfl⟩) (xp_S hbase hh hK hX hS) rfl rfl hl.1 rfl (lv_room (Nat.le_of_ble_eq_true rfl)) dL_step_518 ⟨by show _ ≤ MC; omega, by show _ ≤ MS; omega⟩) hS (fun r140 m141 H locs h hh hS => ?_)
      exact (xe_z hx hb hr hlocks hbase hh hK hX hS h.1 h.2 (by omega) (by omega) dL_step_521)

set_option maxHeartbeats 4000000 in
set_option maxRecDepth 100000 in
theorem bk_L_step_105 {p : Program} {l : Launch} {e : Env} {s : State} {m : MethodId} {args : Array Value} {below : List Frame} {meth : Method} {c : Code} {G : GG} {base : Nat} {MC MS : Nat} (C0 : BC p s m args meth c G base RL cL_step 13 (some .boolean) wsL_step) (hl9 : l.stackTraces = false) {Q : Int32 → MM → Prop} : ∀ (l0 : Nat) (l1 : Nat) (l2 : Int32) (l3 : Int32) (l4 : Int32) (l5 : Nat) (l6 : Int32) (l7 : Int32) (l8 : Int32) (s0 : Int32) (s1 : Int32) (m0 : MM) (H : Heap) (locs : List Loc) (ls : Array Slot) (cl9 sl9 kc ks : Nat) (hcc : cl9 + kc ≤ MC) (hss : sl9 + ks ≤ MS), wp_L_step_105 Q l0 l1 l2 l3 l4 l5 l6 l7 l8 s0 s1 m0 kc ks → hp G (xA base) m0 H → va_S (xA base) s.heap H locs → lv_has ls 13 [(0, .ref l0), (1, .ref l1), (2, .int l2), (3, .int l3), (4, .int l4), (5, .ref l5), (6, .int l6), (7, .int l7), (8, .int l8)] → W p l e ({ frames := 13, cells := MC, slots := MS, locals := 266 } : Room) s m args below meth c H locs cl9 sl9 (MQ below (va_Qi Q (HB G base) (xA base)) args s MC MS (xA base)) (F0 m 105 ls [.int s0, .int s1]) := by
  obtain ⟨hx, hb, hr, hml, hown, hts, hlocks, hK, hbase, hX⟩ := id C0
  intro l0 l1 l2 l3 l4 l5 l6 l7 l8 s0 s1 m0 H locs ls cl9 sl9 kc ks hcc hss h hh hS hl
  unfold wp_L_step_105 at h
  refine lv_isub hx hb dL_step_105 ?_
  refine lv_goto (tgt := 116) hx hb dL_step_106 (by decide) ?_
  exact bk_L_step_116 C0 hl9  _ _ _ _ _ _ _ _ _ _ _ _ _ _ cl9 sl9 kc ks hcc hss h hh hS (lv_sub hl [0, 1, 2, 3, 4, 5, 6, 7, 8] rfl)

set_option maxHeartbeats 4000000 in
set_option maxRecDepth 100000 in
theorem bk_L_step_75 {p : Program} {l : Launch} {e : Env} {s : State} {m : MethodId} {args : Array Value} {below : List Frame} {meth : Method} {c : Code} {G : GG} {base : Nat} {MC MS : Nat} (C0 : BC p s m args meth c G base RL cL_step 13 (some .boolean) wsL_step) (hl9 : l.stackTraces = false) {Q : Int32 → MM → Prop} : ∀ (l0 : Nat) (l1 : Nat) (l2 : Int32) (l3 : Int32) (l4 : Int32) (l5 : Nat) (l6 : Int32) (l7 : Int32) (s0 : Int32) (m0 : MM) (H : Heap) (locs : List Loc) (ls : Array Slot) (cl9 sl9 kc ks : Nat) (hcc : cl9 + kc ≤ MC) (hss : sl9 + ks ≤ MS), wp_L_step_75 Q l0 l1 l2 l3 l4 l5 l6 l7 s0 m0 kc ks → hp G (xA base) m0 H → va_S (xA base) s.heap H locs → lv_has ls 13 [(0, .ref l0), (1, .ref l1), (2, .int l2), (3, .int l3), (4, .int l4), (5, .ref l5), (6, .int l6), (7, .int l7)] → W p l e ({ frames := 13, cells := MC, slots := MS, locals := 266 } : Room) s m args below meth c H locs cl9 sl9 (MQ below (va_Qi Q (HB G base) (xA base)) args s MC MS (xA base)) (F0 m 75 ls [.int s0]) := by
  obtain ⟨hx, hb, hr, hml, hown, hts, hlocks, hK, hbase, hX⟩ := id C0
  intro l0 l1 l2 l3 l4 l5 l6 l7 s0 m0 H locs ls cl9 sl9 kc ks hcc hss h hh hS hl
  unfold wp_L_step_75 at h
  have q1 : (Cond.constant RL 82 (1000001)).before _ s = true := hts _ (List.mem_cons_of_mem _ (List.mem_append_left _ (List.mem_append_left _ (List.mem_append_left _ (List.mem_append_left _ (List.mem_append_left _ (List.mem_append_left _ (List.mem_append_left _ (List.mem_append_left _ (List.mem_append_left _ (List.mem_of_getElem? (i := 0) rfl)))))))))))
  refine lv_istore (lv' := [(8, .int s0), (0, .ref l0), (1, .ref l1), (2, .int l2), (3, .int l3), (4, .int l4), (5, .ref l5), (6, .int l6), (7, .int l7)]) hx hb dL_step_75 hl (by decide) rfl (fun ls hl => ?_)
  refine lv_iload_n hx hb dL_step_77 rfl (lv_at hl 4 rfl) ?_
  refine lv_iconst (v := 5) hx hb dL_step_78 (by decide) ?_
  refine lv_irem hx hb dL_step_79 (by decide) ?_
  refine lv_if_ne (tgt := 109) hx hb dL_step_80 (by decide) (fun c11 => ?_) (fun c11 => ?_)
  · replace h := h.1 c11
    refine lv_iload_n hx hb dL_step_109 rfl (lv_at hl 4 rfl) ?_
    refine lv_iconst (v := 5) hx hb dL_step_110 (by decide) ?_
    refine lv_idiv hx hb dL_step_111 (by decide) ?_
    refine lv_sipush (v := 300) hx hb dL_step_112 (by decide) ?_
    refine lv_irem hx hb dL_step_115 (by decide) ?_
    exact bk_L_step_116 C0 hl9  _ _ _ _ _ _ _ _ _ _ _ _ _ _ cl9 sl9 kc ks hcc hss h hh hS (lv_sub hl [1, 2, 3, 4, 5, 6, 7, 8, 0] rfl)
  · replace h := h.2 c11
    refine lv_iload_n hx hb dL_step_83 rfl (lv_at hl 4 rfl) ?_
    refine lv_iconst (v := 5) hx hb dL_step_84 (by decide) ?_
    refine lv_idiv hx hb dL_step_85 (by decide) ?_
    refine lv_ldc hx hb hown q1 dL_step_86 ?_
    refine lv_irem hx hb dL_step_88 (by decide) ?_
    refine lv_iload hx hb dL_step_89 (lv_at hl 8 rfl) ?_
    refine lv_if_eq (tgt := 98) hx hb dL_step_91 (by decide) (fun c142 => ?_) (fun c142 => ?_)
    · replace h := h.1 c142
      refine lv_iload_n hx hb dL_step_98 rfl (lv_at hl 4 rfl) ?_
      refine lv_bipush (v := 10) hx hb dL_step_99 (by decide) ?_
      refine lv_idiv hx hb dL_step_101 (by decide) ?_
      refine lv_ldc hx hb hown q1 dL_step_102 ?_
      refine lv_irem hx hb dL_step_104 (by decide) ?_
      exact bk_L_step_105 C0 hl9  _ _ _ _ _ _ _ _ _ _ _ _ _ _ _ cl9 sl9 kc ks hcc hss h hh hS (lv_sub hl [1, 2, 3, 4, 5, 6, 7, 8, 0] rfl)
    · replace h := h.2 c142
      refine lv_iconst (v := 0) hx hb dL_step_94 (by decide) ?_
      refine lv_goto (tgt := 105) hx hb dL_step_95 (by decide) ?_
      exact bk_L_step_105 C0 hl9  _ _ _ _ _ _ _ _ _ _ _ _ _ _ _ cl9 sl9 kc ks hcc hss h hh hS (lv_sub hl [1, 2, 3, 4, 5, 6, 7, 8, 0] rfl)

set_option maxHeartbeats 4000000 in
set_option maxRecDepth 100000 in
theorem bk_L_step_53 {p : Program} {l : Launch} {e : Env} {s : State} {m : MethodId} {args : Array Value} {below : List Frame} {meth : Method} {c : Code} {G : GG} {base : Nat} {MC MS : Nat} (C0 : BC p s m args meth c G base RL cL_step 13 (some .boolean) wsL_step) (hl9 : l.stackTraces = false) {Q : Int32 → MM → Prop} : ∀ (l0 : Nat) (l1 : Nat) (l2 : Int32) (l3 : Int32) (l4 : Int32) (l5 : Nat) (l6 : Int32) (l7 : Int32) (s0 : Int32) (s1 : Int32) (m0 : MM) (H : Heap) (locs : List Loc) (ls : Array Slot) (cl9 sl9 kc ks : Nat) (hcc : cl9 + kc ≤ MC) (hss : sl9 + ks ≤ MS), wp_L_step_53 Q l0 l1 l2 l3 l4 l5 l6 l7 s0 s1 m0 kc ks → hp G (xA base) m0 H → va_S (xA base) s.heap H locs → lv_has ls 13 [(0, .ref l0), (1, .ref l1), (2, .int l2), (3, .int l3), (4, .int l4), (5, .ref l5), (6, .int l6), (7, .int l7)] → W p l e ({ frames := 13, cells := MC, slots := MS, locals := 266 } : Room) s m args below meth c H locs cl9 sl9 (MQ below (va_Qi Q (HB G base) (xA base)) args s MC MS (xA base)) (F0 m 53 ls [.int s0, .int s1]) := by
  obtain ⟨hx, hb, hr, hml, hown, hts, hlocks, hK, hbase, hX⟩ := id C0
  intro l0 l1 l2 l3 l4 l5 l6 l7 s0 s1 m0 H locs ls cl9 sl9 kc ks hcc hss h hh hS hl
  unfold wp_L_step_53 at h
  refine lv_isub hx hb dL_step_53 ?_
  refine lv_topi (fun x9 ex9 => ?_)
  replace h := h x9 ex9
  refine lv_istore (lv' := [(8, .int x9), (0, .ref l0), (1, .ref l1), (2, .int l2), (3, .int l3), (4, .int l4), (5, .ref l5), (6, .int l6), (7, .int l7)]) hx hb dL_step_54 hl (by decide) rfl (fun ls hl => ?_)
  refine lv_iload hx hb dL_step_56 (lv_at hl 0 rfl) ?_
  refine lv_if_ge (tgt := 73) hx hb dL_step_58 (by decide) (fun c10 => ?_) (fun c10 => ?_)
  · replace h := h.1 c10
    refine lv_iload hx hb dL_step_73 (lv_at hl 0 rfl) ?_
    exact bk_L_step_75 C0 hl9  _ _ _ _ _ _ _ _ _ _ _ _ _ cl9 sl9 kc ks hcc hss h hh hS (lv_sub hl [1, 2, 3, 4, 5, 6, 7, 8] rfl)
  · replace h := h.2 c10
    refine lv_iload hx hb dL_step_61 (lv_at hl 5 rfl) ?_
    refine lv_aload_n hx hb dL_step_63 rfl (lv_at hl 1 rfl) ?_
    obtain ⟨g143, h⟩ := h
    refine xc_i (va_runV (As := []) (rest := [.int l4]) ⟨hx, hb, hml, hown, hts⟩ (mt_X5_clock l G base h) (cwV 0 hts gL_step_X5_clock rfl rfl rfl (by decide +kernel) ⟨Nat.le_of_ble_eq_true rfl, Nat.le_of_ble_eq_true rfl⟩) (xp_V hbase hh hK hX hS (ci := 5) g143 (by decide) rfl) rfl rfl hl.1 rfl (lv_room (Nat.le_of_ble_eq_true rfl)) dL_step_64 ⟨by show _ ≤ MC; omega, by show _ ≤ MS; omega⟩) hS (fun r144 m145 H locs h hh hS => ?_)
    refine lv_iconst (v := 1) hx hb dL_step_67 (by decide) ?_
    refine lv_iadd hx hb dL_step_68 ?_
    obtain ⟨g146, h⟩ := h
    refine lv_irem hx hb dL_step_69 g146 ?_
    refine lv_goto (tgt := 75) hx hb dL_step_70 (by decide) ?_
    exact bk_L_step_75 C0 hl9  _ _ _ _ _ _ _ _ _ _ _ _ _ cl9 sl9 kc ks hcc hss h hh hS (lv_sub hl [1, 2, 3, 4, 5, 6, 7, 8] rfl)

set_option maxHeartbeats 4000000 in
set_option maxRecDepth 100000 in
theorem bk_L_step_19 {p : Program} {l : Launch} {e : Env} {s : State} {m : MethodId} {args : Array Value} {below : List Frame} {meth : Method} {c : Code} {G : GG} {base : Nat} {MC MS : Nat} (C0 : BC p s m args meth c G base RL cL_step 13 (some .boolean) wsL_step) (hl9 : l.stackTraces = false) {Q : Int32 → MM → Prop} : ∀ (l0 : Nat) (l1 : Nat) (l2 : Int32) (l3 : Int32) (l4 : Int32) (l5 : Nat) (l6 : Int32) (s0 : Int32) (m0 : MM) (H : Heap) (locs : List Loc) (ls : Array Slot) (cl9 sl9 kc ks : Nat) (hcc : cl9 + kc ≤ MC) (hss : sl9 + ks ≤ MS), wp_L_step_19 Q l0 l1 l2 l3 l4 l5 l6 s0 m0 kc ks → hp G (xA base) m0 H → va_S (xA base) s.heap H locs → lv_has ls 13 [(0, .ref l0), (1, .ref l1), (2, .int l2), (3, .int l3), (4, .int l4), (5, .ref l5), (6, .int l6)] → W p l e ({ frames := 13, cells := MC, slots := MS, locals := 266 } : Room) s m args below meth c H locs cl9 sl9 (MQ below (va_Qi Q (HB G base) (xA base)) args s MC MS (xA base)) (F0 m 19 ls [.int s0]) := by
  obtain ⟨hx, hb, hr, hml, hown, hts, hlocks, hK, hbase, hX⟩ := id C0
  intro l0 l1 l2 l3 l4 l5 l6 s0 m0 H locs ls cl9 sl9 kc ks hcc hss h hh hS hl
  unfold wp_L_step_19 at h
  refine lv_istore (lv' := [(7, .int s0), (0, .ref l0), (1, .ref l1), (2, .int l2), (3, .int l3), (4, .int l4), (5, .ref l5), (6, .int l6)]) hx hb dL_step_19 hl (by decide) rfl (fun ls hl => ?_)
  refine lv_aload_n hx hb dL_step_21 rfl (lv_at hl 1 rfl) ?_
  obtain ⟨g5, h⟩ := h
  refine xc_i (va_runV (As := []) (rest := []) ⟨hx, hb, hml, hown, hts⟩ (mt_X5_clock l G base h) (cwV 0 hts gL_step_X5_clock rfl rfl rfl (by decide +kernel) ⟨Nat.le_of_ble_eq_true rfl, Nat.le_of_ble_eq_true rfl⟩) (xp_V hbase hh hK hX hS (ci := 5) g5 (by decide) rfl) rfl rfl hl.1 rfl (lv_room (Nat.le_of_ble_eq_true rfl)) dL_step_22 ⟨by show _ ≤ MC; omega, by show _ ≤ MS; omega⟩) hS (fun r6 m7 H locs h hh hS => ?_)
  refine lv_iload hx hb dL_step_25 (lv_at hl 5 rfl) ?_
  refine lv_iconst (v := 4) hx hb dL_step_27 (by decide) ?_
  refine lv_irem hx hb dL_step_28 (by decide) ?_
  refine lv_if_ne (tgt := 45) hx hb dL_step_29 (by decide) (fun c8 => ?_) (fun c8 => ?_)
  · replace h := h.1 c8
    refine lv_iload hx hb dL_step_45 (lv_at hl 5 rfl) ?_
    refine lv_iconst (v := 4) hx hb dL_step_47 (by decide) ?_
    refine lv_idiv hx hb dL_step_48 (by decide) ?_
    refine lv_sipush (v := 700) hx hb dL_step_49 (by decide) ?_
    refine lv_irem hx hb dL_step_52 (by decide) ?_
    exact bk_L_step_53 C0 hl9  _ _ _ _ _ _ _ _ _ _ _ _ _ _ cl9 sl9 kc ks hcc hss h hh hS (lv_sub hl [1, 2, 3, 4, 5, 6, 7, 0] rfl)
  · replace h := h.2 c8
    refine lv_iload hx hb dL_step_32 (lv_at hl 5 rfl) ?_
    refine lv_iconst (v := 4) hx hb dL_step_34 (by decide) ?_
    refine lv_idiv hx hb dL_step_35 (by decide) ?_
    refine lv_sipush (v := 4000) hx hb dL_step_36 (by decide) ?_
    refine lv_irem hx hb dL_step_39 (by decide) ?_
    refine lv_iconst (v := 5) hx hb dL_step_40 (by decide) ?_
    refine lv_isub hx hb dL_step_41 ?_
    refine lv_goto (tgt := 53) hx hb dL_step_42 (by decide) ?_
    exact bk_L_step_53 C0 hl9  _ _ _ _ _ _ _ _ _ _ _ _ _ _ cl9 sl9 kc ks hcc hss h hh hS (lv_sub hl [1, 2, 3, 4, 5, 6, 7, 0] rfl)

set_option maxHeartbeats 4000000 in
set_option maxRecDepth 100000 in
theorem mt_L_step (l : Launch) (hl9 : l.stackTraces = false) (G : GG) (base : Nat) {p1 : Nat} {p2 : Nat} {p3 : Int32} {p4 : Int32} {p5 : Int32} {p6 : Nat} {m0 : MM} {Q : Int32 → MM → Prop} {kc ks : Nat} (h : wp_L_step p1 p2 p3 p4 p5 p6 m0 Q kc ks) : Met l yL_step wsL_step ({ frames := 13, cells := kc, slots := ks, locals := 266 }) (va_Pc [.ref p1, .ref p2, .int p3, .int p4, .int p5, .ref p6] (SP G base m0)) (va_Qi Q (HB G base) (xA base)) kc ks (xA base) := by
  refine Met.ofW (cc := cL_step) (maxL := 13) (ret := (some .boolean)) (by decide) rfl ?_
  intro p e s m args below meth c s₁ B hml hv
  obtain ⟨rfl, hbase, hh, hK, hX⟩ := hv
  have C0 : BC p s m _ meth c G base RL cL_step 13 (some .boolean) wsL_step := ⟨B.exec, B.bytes, B.returns, hml, findClass_of_methodNamed B.named, atoms_spec (ws := wsL_step) B.pre, B.notSynchronized, hK, hbase, hX⟩
  obtain ⟨hx, hb, hr, -, hown, hts, hlocks, -, -, -⟩ := id C0
  have hS : va_S (xA base) s.heap s.heap [] := va_S.rf
  have hl := lv_entry ([.ref p1, .ref p2, .int p3, .int p4, .int p5, .ref p6]) (n := 13) (Nat.le_of_ble_eq_true rfl)
  rw [lg_entry_eq]
  generalize (lg_sl ([.ref p1, .ref p2, .int p3, .int p4, .int p5, .ref p6]) ++ List.replicate (13 - (lg_sl ([.ref p1, .ref p2, .int p3, .int p4, .int p5, .ref p6])).length) Slot.unset).toArray = ls at hl ⊢
  have hl : lv_has ls 13 [(0, .ref p1), (1, .ref p2), (2, .int p3), (3, .int p4), (4, .int p5), (5, .ref p6)] := hl
  unfold wp_L_step at h
  have hcc : 0 + kc ≤ kc := by omega
  have hss : 0 + ks ≤ ks := by omega
  refine lv_iload_n hx hb dL_step_0 rfl (lv_at hl 3 rfl) ?_
  refine lv_iconst (v := 2) hx hb dL_step_1 (by decide) ?_
  refine lv_irem hx hb dL_step_2 (by decide) ?_
  refine lv_topi (fun x1 ex1 => ?_)
  replace h := h x1 ex1
  refine lv_istore (lv' := [(6, .int x1), (0, .ref p1), (1, .ref p2), (2, .int p3), (3, .int p4), (4, .int p5), (5, .ref p6)]) hx hb dL_step_3 hl (by decide) rfl (fun ls hl => ?_)
  refine lv_aload hx hb dL_step_5 (lv_at hl 6 rfl) ?_
  refine lv_iload hx hb dL_step_7 (lv_at hl 0 rfl) ?_
  obtain ⟨g2, h⟩ := h
  obtain ⟨g3, h⟩ := h
  refine xr_iald hx hb hK hh g2 g3 dL_step_9 ?_
  refine lv_iconst (v := 1) hx hb dL_step_10 (by decide) ?_
  refine lv_icmp_ne (tgt := 18) hx hb dL_step_11 (by decide) (fun c4 => ?_) (fun c4 => ?_)
  · replace h := h.1 c4
    refine lv_iconst (v := 0) hx hb dL_step_18 (by decide) ?_
    exact bk_L_step_19 C0 hl9  _ _ _ _ _ _ _ _ _ _ _ _ 0 0 kc ks hcc hss h hh hS (lv_sub hl [1, 2, 3, 4, 5, 6, 0] rfl)
  · replace h := h.2 c4
    refine lv_iconst (v := 1) hx hb dL_step_14 (by decide) ?_
    refine lv_goto (tgt := 19) hx hb dL_step_15 (by decide) ?_
    exact bk_L_step_19 C0 hl9  _ _ _ _ _ _ _ _ _ _ _ _ 0 0 kc ks hcc hss h hh hS (lv_sub hl [1, 2, 3, 4, 5, 6, 0] rfl)

set_option maxHeartbeats 4000000 in
set_option maxRecDepth 100000 in
theorem bk_L_store_316 {b LL : Nat} {xs : Nat → Int32} {p : Program} {l : Launch} {e : Env} {s : State} {m : MethodId} {args : Array Value} {below : List Frame} {meth : Method} {c : Code} {G : GG} {base : Nat} {MC MS : Nat} (C0 : BC p s m args meth c G base RL cL_store 12 (some .boolean) wsL_store) (hl9 : l.stackTraces = false) (hXs : va_X b LL xs s s.heap) (hbl : b < base) {Q : Int32 → MM → Prop} {K115 : Int32 → Nat → Nat → Nat → Int32 → MM → Nat → Nat → Prop} (hK115 : ∀ (l1 : Int32) (l2 : Nat) (l3 : Nat) (l4 : Nat) (l5 : Int32) (m0 : MM) (H : Heap) (locs : List Loc) (ls : Array Slot) (cl9 sl9 kc ks : Nat) (hcc : cl9 + kc ≤ MC) (hss : sl9 + ks ≤ MS), K115 l1 l2 l3 l4 l5 m0 kc ks → hp G (xA base) m0 H → va_S (xA base) s.heap H locs → lv_has ls 12 [(0, .ref b), (1, .int l1), (2, .ref l2), (3, .ref l3), (4, .ref l4), (5, .int l5)] → W p l e ({ frames := 14, cells := MC, slots := MS, locals := 298 } : Room) s m args below meth c H locs cl9 sl9 (MQ below (va_Qi Q (HB G base) (xA base)) args s MC MS (xA base)) (F0 m 115 ls [])) {K194 : Int32 → Nat → Nat → Nat → Int32 → Int32 → Int32 → Int32 → Int32 → MM → Nat → Nat → Prop} (hK194 : ∀ (l1 : Int32) (l2 : Nat) (l3 : Nat) (l4 : Nat) (l5 : Int32) (l6 : Int32) (l7 : Int32) (l8 : Int32) (l9 : Int32) (m0 : MM) (H : Heap) (locs : List Loc) (ls : Array Slot) (cl9 sl9 kc ks : Nat) (hcc : cl9 + kc ≤ MC) (hss : sl9 + ks ≤ MS), K194 l1 l2 l3 l4 l5 l6 l7 l8 l9 m0 kc ks → hp G (xA base) m0 H → va_S (xA base) s.heap H locs → lv_has ls 12 [(0, .ref b), (1, .int l1), (2, .ref l2), (3, .ref l3), (4, .ref l4), (5, .int l5), (6, .int l6), (7, .int l7), (8, .int l8), (9, .int l9)] → W p l e ({ frames := 14, cells := MC, slots := MS, locals := 298 } : Room) s m args below meth c H locs cl9 sl9 (MQ below (va_Qi Q (HB G base) (xA base)) args s MC MS (xA base)) (F0 m 194 ls [])) {K282 : Int32 → Nat → Nat → Nat → Int32 → Int32 → Int32 → Int32 → Int32 → Int32 → MM → Nat → Nat → Prop} (hK282 : ∀ (l1 : Int32) (l2 : Nat) (l3 : Nat) (l4 : Nat) (l5 : Int32) (l6 : Int32) (l7 : Int32) (l8 : Int32) (l9 : Int32) (l10 : Int32) (m0 : MM) (H : Heap) (locs : List Loc) (ls : Array Slot) (cl9 sl9 kc ks : Nat) (hcc : cl9 + kc ≤ MC) (hss : sl9 + ks ≤ MS), K282 l1 l2 l3 l4 l5 l6 l7 l8 l9 l10 m0 kc ks → hp G (xA base) m0 H → va_S (xA base) s.heap H locs → lv_has ls 12 [(0, .ref b), (1, .int l1), (2, .ref l2), (3, .ref l3), (4, .ref l4), (5, .int l5), (6, .int l6), (7, .int l7), (8, .int l8), (9, .int l9), (10, .int l10)] → W p l e ({ frames := 14, cells := MC, slots := MS, locals := 298 } : Room) s m args below meth c H locs cl9 sl9 (MQ below (va_Qi Q (HB G base) (xA base)) args s MC MS (xA base)) (F0 m 282 ls [])) : ∀ (n : Nat) (l1 : Int32) (l2 : Nat) (l3 : Nat) (l4 : Nat) (l5 : Int32) (l6 : Int32) (l7 : Int32) (l8 : Int32) (l9 : Int32) (l10 : Int32) (l11 : Int32) (m0 : MM) (H : Heap) (locs : List Loc) (ls : Array Slot) (cl9 sl9 kc ks : Nat) (hcc : cl9 + kc ≤ MC) (hss : sl9 + ks ≤ MS), wp_L_store_316 xs LL Q K115 K194 K282 n l1 l2 l3 l4 l5 l6 l7 l8 l9 l10 l11 m0 kc ks → hp G (xA base) m0 H → va_S (xA base) s.heap H locs → lv_has ls 12 [(0, .ref b), (1, .int l1), (2, .ref l2), (3, .ref l3), (4, .ref l4), (5, .int l5), (6, .int l6), (7, .int l7), (8, .int l8), (9, .int l9), (10, .int l10), (11, .int l11)] → W p l e ({ frames := 14, cells := MC, slots := MS, locals := 298 } : Room) s m args below meth c H locs cl9 sl9 (MQ below (va_Qi Q (HB G base) (xA base)) args s MC MS (xA base)) (F0 m 316 ls []) := by
  obtain ⟨hx, hb, hr, hml, hown, hts, hlocks, hK, hbase, hX⟩ := id C0
  have hbl2 := Nat.lt_of_lt_of_le hbl hbase
  have hbA : ¬ xA base b := Nat.not_le.mpr hbl
  intro n
  induction n with
  | zero =>
    intro l1 l2 l3 l4 l5 l6 l7 l8 l9 l10 l11 m0 H locs ls cl9 sl9 kc ks hcc hss h
    unfold wp_L_store_316 at h
    exact h.elim
  | succ n ih =>
    intro l1 l2 l3 l4 l5 l6 l7 l8 l9 l10 l11 m0 H locs ls cl9 sl9 kc ks hcc hss h hh hS hl
    unfold wp_L_store_316 at h
    refine lv_iload hx hb dL_store_316 (lv_at hl 11 rfl) ?_
    refine lv_aload_n hx hb dL_store_318 rfl (lv_at hl 2 rfl) ?_
    refine lv_iload hx hb dL_store_319 (lv_at hl 9 rfl) ?_
    refine lv_iload hx hb dL_store_321 (lv_at hl 10 rfl) ?_
    obtain ⟨g148, h⟩ := h
    refine xc_i (va_runV (As := [.int l9, .int l10]) (rest := [.int l11]) ⟨hx, hb, hml, hown, hts⟩ (mtq_X5_rows l G base h) (cwV 2 hts gL_store_X5_rows rfl rfl rfl (by decide +kernel) ⟨Nat.le_of_ble_eq_true rfl, Nat.le_of_ble_eq_true rfl⟩) (xp_V hbase hh hK hX hS (ci := 5) g148 (by decide) rfl) rfl rfl hl.1 rfl (lv_room (Nat.le_of_ble_eq_true rfl)) dL_store_323 ⟨by show _ ≤ MC; omega, by show _ ≤ MS; omega⟩) hS (fun r149 m150 H locs h hh hS => ?_)
    refine lv_icmp_ge (tgt := 362) hx hb dL_store_326 (by decide) (fun c151 => ?_) (fun c151 => ?_)
    · replace h := h.1 c151
      obtain ⟨x152, ex152⟩ : ∃ y : Int32, y = l10 + 1 := ⟨_, rfl⟩
      replace h := h x152 ex152
      refine lv_iinc (v := x152) (lv' := [(10, .int x152), (0, .ref b), (1, .int l1), (2, .ref l2), (3, .ref l3), (4, .ref l4), (5, .int l5), (6, .int l6), (7, .int l7), (8, .int l8), (9, .int l9), (11, .int l11)]) hx hb dL_store_362 hl (k := 10) rfl (by rw [ex152]; rfl) (by decide) rfl (fun ls hl => ?_)
      refine lv_goto (tgt := 282) hx hb dL_store_365 (by decide) ?_
      exact hK282 _ _ _ _ _ _ _ _ _ _ _ _ _ _ cl9 sl9 kc ks hcc hss h hh hS (lv_sub hl [1, 2, 3, 4, 5, 6, 7, 8, 9, 10, 0] rfl)
    · replace h := h.2 c151
      refine lv_iload hx hb dL_store_329 (lv_at hl 8 rfl) ?_
      refine lv_if_eq (tgt := 362) hx hb dL_store_331 (by decide) (fun c153 => ?_) (fun c153 => ?_)
      · replace h := h.1 c153
        obtain ⟨x154, ex154⟩ : ∃ y : Int32, y = l10 + 1 := ⟨_, rfl⟩
        replace h := h x154 ex154
        refine lv_iinc (v := x154) (lv' := [(10, .int x154), (0, .ref b), (1, .int l1), (2, .ref l2), (3, .ref l3), (4, .ref l4), (5, .int l5), (6, .int l6), (7, .int l7), (8, .int l8), (9, .int l9), (11, .int l11)]) hx hb dL_store_362 hl (k := 10) rfl (by rw [ex154]; rfl) (by decide) rfl (fun ls hl => ?_)
        refine lv_goto (tgt := 282) hx hb dL_store_365 (by decide) ?_
        exact hK282 _ _ _ _ _ _ _ _ _ _ _ _ _ _ cl9 sl9 kc ks hcc hss h hh hS (lv_sub hl [1, 2, 3, 4, 5, 6, 7, 8, 9, 10, 0] rfl)
      · replace h := h.2 c153
        refine lv_aload_n hx hb dL_store_334 rfl (lv_at hl 2 rfl) ?_
        refine lv_aload hx hb dL_store_335 (lv_at hl 4 rfl) ?_
        refine lv_iload hx hb dL_store_337 (lv_at hl 9 rfl) ?_
        refine lv_iload hx hb dL_store_339 (lv_at hl 10 rfl) ?_
        refine lv_aload_n hx hb dL_store_341 rfl (lv_at hl 2 rfl) ?_
        refine lv_iload hx hb dL_store_342 (lv_at hl 9 rfl) ?_
        refine lv_iload hx hb dL_store_344 (lv_at hl 10 rfl) ?_
        refine lv_iload hx hb dL_store_346 (lv_at hl 11 rfl) ?_
        obtain ⟨g155, h⟩ := h
        refine xc_i (va_runV (As := [.int l9, .int l10, .int l11]) (rest := [.int l10, .int l9, .ref l4, .ref l2]) ⟨hx, hb, hml, hown, hts⟩ (mtq_X5_timeOf l G base h) (cwV 3 hts gL_store_X5_timeOf rfl rfl rfl (by decide +kernel) ⟨Nat.le_of_ble_eq_true rfl, Nat.le_of_ble_eq_true rfl⟩) (xp_V hbase hh hK hX hS (ci := 5) g155 (by decide) rfl) rfl rfl hl.1 rfl (lv_room (Nat.le_of_ble_eq_true rfl)) dL_store_348 ⟨by show _ ≤ MC; omega, by show _ ≤ MS; omega⟩) hS (fun r156 m157 H locs h hh hS => ?_)
        refine xc_i (va_runS (As := [.ref l2, .ref l4, .int l9, .int l10, .int r156]) (rest := []) ⟨hx, hb, hml, hown, hts⟩ (mt_L_isRollup l hl9 G base h) (va_cwS 5 hts gL_store_L_isRollup rfl rfl rfl (by decide +kernel) ⟨Nat.le_of_ble_eq_true rfl, Nat.le_of_ble_eq_true rfl⟩) (xp_S hbase hh hK hX hS) rfl rfl hl.1 rfl (lv_room (Nat.le_of_ble_eq_true rfl)) dL_store_351 ⟨by show _ ≤ MC; omega, by show _ ≤ MS; omega⟩) hS (fun r158 m159 H locs h hh hS => ?_)
        refine lv_istore (lv' := [(8, .int r158), (0, .ref b), (1, .int l1), (2, .ref l2), (3, .ref l3), (4, .ref l4), (5, .int l5), (6, .int l6), (7, .int l7), (9, .int l9), (10, .int l10), (11, .int l11)]) hx hb dL_store_354 hl (by decide) rfl (fun ls hl => ?_)
        obtain ⟨x160, ex160⟩ : ∃ y : Int32, y = l11 + 3 := ⟨_, rfl⟩
        replace h := h x160 ex160
        refine lv_iinc (v := x160) (lv' := [(11, .int x160), (8, .int r158), (0, .ref b), (1, .int l1), (2, .ref l2), (3, .ref l3), (4, .ref l4), (5, .int l5), (6, .int l6), (7, .int l7), (9, .int l9), (10, .int l10)]) hx hb dL_store_356 hl (k := 11) rfl (by rw [ex160]; rfl) (by decide) rfl (fun ls hl => ?_)
        refine lv_goto (tgt := 316) hx hb dL_store_359 (by decide) ?_
        exact ih _ _ _ _ _ _ _ _ _ _ _ _ _ _ _ cl9 sl9 kc ks hcc hss h hh hS (lv_sub hl [2, 3, 4, 5, 6, 7, 8, 9, 1, 10, 11, 0] rfl)

set_option maxHeartbeats 4000000 in
set_option maxRecDepth 100000 in
theorem bk_L_store_282 {b LL : Nat} {xs : Nat → Int32} {p : Program} {l : Launch} {e : Env} {s : State} {m : MethodId} {args : Array Value} {below : List Frame} {meth : Method} {c : Code} {G : GG} {base : Nat} {MC MS : Nat} (C0 : BC p s m args meth c G base RL cL_store 12 (some .boolean) wsL_store) (hl9 : l.stackTraces = false) (hXs : va_X b LL xs s s.heap) (hbl : b < base) {Q : Int32 → MM → Prop} {K115 : Int32 → Nat → Nat → Nat → Int32 → MM → Nat → Nat → Prop} (hK115 : ∀ (l1 : Int32) (l2 : Nat) (l3 : Nat) (l4 : Nat) (l5 : Int32) (m0 : MM) (H : Heap) (locs : List Loc) (ls : Array Slot) (cl9 sl9 kc ks : Nat) (hcc : cl9 + kc ≤ MC) (hss : sl9 + ks ≤ MS), K115 l1 l2 l3 l4 l5 m0 kc ks → hp G (xA base) m0 H → va_S (xA base) s.heap H locs → lv_has ls 12 [(0, .ref b), (1, .int l1), (2, .ref l2), (3, .ref l3), (4, .ref l4), (5, .int l5)] → W p l e ({ frames := 14, cells := MC, slots := MS, locals := 298 } : Room) s m args below meth c H locs cl9 sl9 (MQ below (va_Qi Q (HB G base) (xA base)) args s MC MS (xA base)) (F0 m 115 ls [])) {K194 : Int32 → Nat → Nat → Nat → Int32 → Int32 → Int32 → Int32 → Int32 → MM → Nat → Nat → Prop} (hK194 : ∀ (l1 : Int32) (l2 : Nat) (l3 : Nat) (l4 : Nat) (l5 : Int32) (l6 : Int32) (l7 : Int32) (l8 : Int32) (l9 : Int32) (m0 : MM) (H : Heap) (locs : List Loc) (ls : Array Slot) (cl9 sl9 kc ks : Nat) (hcc : cl9 + kc ≤ MC) (hss : sl9 + ks ≤ MS), K194 l1 l2 l3 l4 l5 l6 l7 l8 l9 m0 kc ks → hp G (xA base) m0 H → va_S (xA base) s.heap H locs → lv_has ls 12 [(0, .ref b), (1, .int l1), (2, .ref l2), (3, .ref l3), (4, .ref l4), (5, .int l5), (6, .int l6), (7, .int l7), (8, .int l8), (9, .int l9)] → W p l e ({ frames := 14, cells := MC, slots := MS, locals := 298 } : Room) s m args below meth c H locs cl9 sl9 (MQ below (va_Qi Q (HB G base) (xA base)) args s MC MS (xA base)) (F0 m 194 ls [])) : ∀ (n : Nat) (l1 : Int32) (l2 : Nat) (l3 : Nat) (l4 : Nat) (l5 : Int32) (l6 : Int32) (l7 : Int32) (l8 : Int32) (l9 : Int32) (l10 : Int32) (m0 : MM) (H : Heap) (locs : List Loc) (ls : Array Slot) (cl9 sl9 kc ks : Nat) (hcc : cl9 + kc ≤ MC) (hss : sl9 + ks ≤ MS), wp_L_store_282 xs LL Q K115 K194 n l1 l2 l3 l4 l5 l6 l7 l8 l9 l10 m0 kc ks → hp G (xA base) m0 H → va_S (xA base) s.heap H locs → lv_has ls 12 [(0, .ref b), (1, .int l1), (2, .ref l2), (3, .ref l3), (4, .ref l4), (5, .int l5), (6, .int l6), (7, .int l7), (8, .int l8), (9, .int l9), (10, .int l10)] → W p l e ({ frames := 14, cells := MC, slots := MS, locals := 298 } : Room) s m args below meth c H locs cl9 sl9 (MQ below (va_Qi Q (HB G base) (xA base)) args s MC MS (xA base)) (F0 m 282 ls []) := by
  obtain ⟨hx, hb, hr, hml, hown, hts, hlocks, hK, hbase, hX⟩ := id C0
  have hbl2 := Nat.lt_of_lt_of_le hbl hbase
  have hbA : ¬ xA base b := Nat.not_le.mpr hbl
  intro n
  induction n with
  | zero =>
    intro l1 l2 l3 l4 l5 l6 l7 l8 l9 l10 m0 H locs ls cl9 sl9 kc ks hcc hss h
    unfold wp_L_store_282 at h
    exact h.elim
  | succ n ih =>
    intro l1 l2 l3 l4 l5 l6 l7 l8 l9 l10 m0 H locs ls cl9 sl9 kc ks hcc hss h hh hS hl
    unfold wp_L_store_282 at h
    refine lv_iload hx hb dL_store_282 (lv_at hl 10 rfl) ?_
    refine lv_iconst (v := 4) hx hb dL_store_284 (by decide) ?_
    refine lv_icmp_ge (tgt := 368) hx hb dL_store_285 (by decide) (fun c135 => ?_) (fun c135 => ?_)
    · replace h := h.1 c135
      obtain ⟨x136, ex136⟩ : ∃ y : Int32, y = l9 + 1 := ⟨_, rfl⟩
      replace h := h x136 ex136
      refine lv_iinc (v := x136) (lv' := [(9, .int x136), (0, .ref b), (1, .int l1), (2, .ref l2), (3, .ref l3), (4, .ref l4), (5, .int l5), (6, .int l6), (7, .int l7), (8, .int l8), (10, .int l10)]) hx hb dL_store_368 hl (k := 9) rfl (by rw [ex136]; rfl) (by decide) rfl (fun ls hl => ?_)
      refine lv_goto (tgt := 194) hx hb dL_store_371 (by decide) ?_
      exact hK194 _ _ _ _ _ _ _ _ _ _ _ _ _ cl9 sl9 kc ks hcc hss h hh hS (lv_sub hl [1, 2, 3, 4, 5, 6, 7, 8, 9, 0] rfl)
    · replace h := h.2 c135
      refine lv_iload hx hb dL_store_288 (lv_at hl 8 rfl) ?_
      refine lv_if_eq (tgt := 368) hx hb dL_store_290 (by decide) (fun c137 => ?_) (fun c137 => ?_)
      · replace h := h.1 c137
        obtain ⟨x138, ex138⟩ : ∃ y : Int32, y = l9 + 1 := ⟨_, rfl⟩
        replace h := h x138 ex138
        refine lv_iinc (v := x138) (lv' := [(9, .int x138), (0, .ref b), (1, .int l1), (2, .ref l2), (3, .ref l3), (4, .ref l4), (5, .int l5), (6, .int l6), (7, .int l7), (8, .int l8), (10, .int l10)]) hx hb dL_store_368 hl (k := 9) rfl (by rw [ex138]; rfl) (by decide) rfl (fun ls hl => ?_)
        refine lv_goto (tgt := 194) hx hb dL_store_371 (by decide) ?_
        exact hK194 _ _ _ _ _ _ _ _ _ _ _ _ _ cl9 sl9 kc ks hcc hss h hh hS (lv_sub hl [1, 2, 3, 4, 5, 6, 7, 8, 9, 0] rfl)
      · replace h := h.2 c137
        refine lv_aload_n hx hb dL_store_293 rfl (lv_at hl 2 rfl) ?_
        refine lv_aload hx hb dL_store_294 (lv_at hl 4 rfl) ?_
        refine lv_iload hx hb dL_store_296 (lv_at hl 9 rfl) ?_
        refine lv_iload hx hb dL_store_298 (lv_at hl 10 rfl) ?_
        refine lv_iload hx hb dL_store_300 (lv_at hl 6 rfl) ?_
        refine lv_bipush (v := 11) hx hb dL_store_302 (by decide) ?_
        refine lv_idiv hx hb dL_store_304 (by decide) ?_
        obtain ⟨g139, g140, h⟩ := h
        refine xc_i (va_runS (As := [.ref l2, .ref l4, .int l9, .int l10, .int (l6 / (11 : Int32))]) (rest := []) ⟨hx, hb, hml, hown, hts⟩ (mt_L_areGaps l hl9 G base h) (va_cwS 5 hts gL_store_L_areGaps rfl rfl rfl (by decide +kernel) ⟨Nat.le_of_ble_eq_true rfl, Nat.le_of_ble_eq_true rfl⟩) (xp_S hbase hh hK hX hS) rfl rfl hl.1 rfl (lv_room (Nat.le_of_ble_eq_true rfl)) dL_store_305 ⟨by show _ ≤ MC; omega, by show _ ≤ MS; omega⟩) hS (fun r141 m142 H locs h hh hS => ?_)
        obtain ⟨kc143, ekc143⟩ : ∃ z : Nat, z = kc - 15 := ⟨_, rfl⟩
        obtain ⟨ks144, eks144⟩ : ∃ z : Nat, z = ks - 90 := ⟨_, rfl⟩
        replace h := h kc143 ks144 ekc143 eks144
        obtain ⟨cl145, ecl145⟩ : ∃ z : Nat, z = cl9 + 15 := ⟨_, rfl⟩
        obtain ⟨sl146, esl146⟩ : ∃ z : Nat, z = sl9 + 90 := ⟨_, rfl⟩
        refine W_cs ecl145 esl146 ?_
        have hcc : cl145 + kc143 ≤ MC := by omega
        have hss : sl146 + ks144 ≤ MS := by omega
        refine lv_istore (lv' := [(8, .int r141), (0, .ref b), (1, .int l1), (2, .ref l2), (3, .ref l3), (4, .ref l4), (5, .int l5), (6, .int l6), (7, .int l7), (9, .int l9), (10, .int l10)]) hx hb dL_store_308 hl (by decide) rfl (fun ls hl => ?_)
        refine lv_iload hx hb dL_store_310 (lv_at hl 8 rfl) ?_
        refine lv_iconst (v := 3) hx hb dL_store_312 (by decide) ?_
        refine lv_irem hx hb dL_store_313 (by decide) ?_
        refine lv_topi (fun x147 ex147 => ?_)
        replace h := h x147 ex147
        refine lv_istore (lv' := [(11, .int x147), (8, .int r141), (0, .ref b), (1, .int l1), (2, .ref l2), (3, .ref l3), (4, .ref l4), (5, .int l5), (6, .int l6), (7, .int l7), (9, .int l9), (10, .int l10)]) hx hb dL_store_314 hl (by decide) rfl (fun ls hl => ?_)
        obtain ⟨n9, h⟩ := h
        exact bk_L_store_316 C0 hl9 hXs hbl  (K115 := K115) hK115 (K194 := K194) hK194 (K282 := wp_L_store_282 xs LL Q K115 K194 n) ih n9 _ _ _ _ _ _ _ _ _ _ _ _ _ _ _ cl145 sl146 kc143 ks144 hcc hss h hh hS (lv_sub hl [2, 3, 4, 5, 6, 7, 8, 9, 1, 10, 11, 0] rfl)

set_option maxHeartbeats 4000000 in
set_option maxRecDepth 100000 in
theorem bk_L_store_194 {b LL : Nat} {xs : Nat → Int32} {p : Program} {l : Launch} {e : Env} {s : State} {m : MethodId} {args : Array Value} {below : List Frame} {meth : Method} {c : Code} {G : GG} {base : Nat} {MC MS : Nat} (C0 : BC p s m args meth c G base RL cL_store 12 (some .boolean) wsL_store) (hl9 : l.stackTraces = false) (hXs : va_X b LL xs s s.heap) (hbl : b < base) {Q : Int32 → MM → Prop} {K : Int32 → Nat → Nat → Nat → Int32 → MM → Nat → Nat → Prop} (hK9 : ∀ (l1 : Int32) (l2 : Nat) (l3 : Nat) (l4 : Nat) (l5 : Int32) (m0 : MM) (H : Heap) (locs : List Loc) (ls : Array Slot) (cl9 sl9 kc ks : Nat) (hcc : cl9 + kc ≤ MC) (hss : sl9 + ks ≤ MS), K l1 l2 l3 l4 l5 m0 kc ks → hp G (xA base) m0 H → va_S (xA base) s.heap H locs → lv_has ls 12 [(0, .ref b), (1, .int l1), (2, .ref l2), (3, .ref l3), (4, .ref l4), (5, .int l5)] → W p l e ({ frames := 14, cells := MC, slots := MS, locals := 298 } : Room) s m args below meth c H locs cl9 sl9 (MQ below (va_Qi Q (HB G base) (xA base)) args s MC MS (xA base)) (F0 m 115 ls [])) : ∀ (n : Nat) (l1 : Int32) (l2 : Nat) (l3 : Nat) (l4 : Nat) (l5 : Int32) (l6 : Int32) (l7 : Int32) (l8 : Int32) (l9 : Int32) (m0 : MM) (H : Heap) (locs : List Loc) (ls : Array Slot) (cl9 sl9 kc ks : Nat) (hcc : cl9 + kc ≤ MC) (hss : sl9 + ks ≤ MS), wp_L_store_194 xs LL Q K n l1 l2 l3 l4 l5 l6 l7 l8 l9 m0 kc ks → hp G (xA base) m0 H → va_S (xA base) s.heap H locs → lv_has ls 12 [(0, .ref b), (1, .int l1), (2, .ref l2), (3, .ref l3), (4, .ref l4), (5, .int l5), (6, .int l6), (7, .int l7), (8, .int l8), (9, .int l9)] → W p l e ({ frames := 14, cells := MC, slots := MS, locals := 298 } : Room) s m args below meth c H locs cl9 sl9 (MQ below (va_Qi Q (HB G base) (xA base)) args s MC MS (xA base)) (F0 m 194 ls []) := by
  obtain ⟨hx, hb, hr, hml, hown, hts, hlocks, hK, hbase, hX⟩ := id C0
  have hbl2 := Nat.lt_of_lt_of_le hbl hbase
  have hbA : ¬ xA base b := Nat.not_le.mpr hbl
  intro n
  induction n with
  | zero =>
    intro l1 l2 l3 l4 l5 l6 l7 l8 l9 m0 H locs ls cl9 sl9 kc ks hcc hss h
    unfold wp_L_store_194 at h
    exact h.elim
  | succ n ih =>
    intro l1 l2 l3 l4 l5 l6 l7 l8 l9 m0 H locs ls cl9 sl9 kc ks hcc hss h hh hS hl
    unfold wp_L_store_194 at h
    refine lv_iload hx hb dL_store_194 (lv_at hl 9 rfl) ?_
    refine lv_iconst (v := 2) hx hb dL_store_196 (by decide) ?_
    refine lv_icmp_ge (tgt := 374) hx hb dL_store_197 (by decide) (fun c124 => ?_) (fun c124 => ?_)
    · replace h := h.1 c124
      refine lv_iload hx hb dL_store_374 (lv_at hl 8 rfl) ?_
      refine lv_if_ne (tgt := 381) hx hb dL_store_376 (by decide) (fun c125 => ?_) (fun c125 => ?_)
      · replace h := h.1 c125
        obtain ⟨x126, ex126⟩ : ∃ y : Int32, y = l5 + 1 := ⟨_, rfl⟩
        replace h := h x126 ex126
        refine lv_iinc (v := x126) (lv' := [(5, .int x126), (0, .ref b), (1, .int l1), (2, .ref l2), (3, .ref l3), (4, .ref l4), (6, .int l6), (7, .int l7), (8, .int l8), (9, .int l9)]) hx hb dL_store_381 hl (k := 5) rfl (by rw [ex126]; rfl) (by decide) rfl (fun ls hl => ?_)
        refine lv_goto (tgt := 115) hx hb dL_store_384 (by decide) ?_
        exact hK9 _ _ _ _ _ _ _ _ _ cl9 sl9 kc ks hcc hss h hh hS (lv_sub hl [1, 2, 3, 4, 5, 0] rfl)
      · replace h := h.2 c125
        refine lv_iconst (v := 0) hx hb dL_store_379 (by decide) ?_
        exact (xe_z hx hb hr hlocks hbase hh hK hX hS (Or.inl rfl) h (by omega) (by omega) dL_store_380)
    · replace h := h.2 c124
      refine lv_iload hx hb dL_store_200 (lv_at hl 8 rfl) ?_
      refine lv_if_eq (tgt := 374) hx hb dL_store_202 (by decide) (fun c127 => ?_) (fun c127 => ?_)
      · replace h := h.1 c127
        refine lv_iload hx hb dL_store_374 (lv_at hl 8 rfl) ?_
        refine lv_if_ne (tgt := 381) hx hb dL_store_376 (by decide) (fun c128 => ?_) (fun c128 => ?_)
        · replace h := h.1 c128
          obtain ⟨x129, ex129⟩ : ∃ y : Int32, y = l5 + 1 := ⟨_, rfl⟩
          replace h := h x129 ex129
          refine lv_iinc (v := x129) (lv' := [(5, .int x129), (0, .ref b), (1, .int l1), (2, .ref l2), (3, .ref l3), (4, .ref l4), (6, .int l6), (7, .int l7), (8, .int l8), (9, .int l9)]) hx hb dL_store_381 hl (k := 5) rfl (by rw [ex129]; rfl) (by decide) rfl (fun ls hl => ?_)
          refine lv_goto (tgt := 115) hx hb dL_store_384 (by decide) ?_
          exact hK9 _ _ _ _ _ _ _ _ _ cl9 sl9 kc ks hcc hss h hh hS (lv_sub hl [1, 2, 3, 4, 5, 0] rfl)
        · replace h := h.2 c128
          refine lv_iconst (v := 0) hx hb dL_store_379 (by decide) ?_
          exact (xe_z hx hb hr hlocks hbase hh hK hX hS (Or.inl rfl) h (by omega) (by omega) dL_store_380)
      · replace h := h.2 c127
        refine lv_aload_n hx hb dL_store_205 rfl (lv_at hl 2 rfl) ?_
        refine lv_aload hx hb dL_store_206 (lv_at hl 4 rfl) ?_
        refine lv_iload hx hb dL_store_208 (lv_at hl 9 rfl) ?_
        refine xc_i (va_runS (As := [.ref l2, .ref l4, .int l9]) (rest := []) ⟨hx, hb, hml, hown, hts⟩ (mt_L_areRows l hl9 G base h) (va_cwS 3 hts gL_store_L_areRows rfl rfl rfl (by decide +kernel) ⟨Nat.le_of_ble_eq_true rfl, Nat.le_of_ble_eq_true rfl⟩) (xp_S hbase hh hK hX hS) rfl rfl hl.1 rfl (lv_room (Nat.le_of_ble_eq_true rfl)) dL_store_210 ⟨by show _ ≤ MC; omega, by show _ ≤ MS; omega⟩) hS (fun r130 m131 H locs h hh hS => ?_)
        refine lv_if_eq (tgt := 276) hx hb dL_store_213 (by decide) (fun c132 => ?_) (fun c132 => ?_)
        · replace h := h.1 c132
          refine lv_iconst (v := 0) hx hb dL_store_276 (by decide) ?_
          refine lv_topi (fun x133 ex133 => ?_)
          replace h := h x133 ex133
          refine lv_istore (lv' := [(8, .int x133), (0, .ref b), (1, .int l1), (2, .ref l2), (3, .ref l3), (4, .ref l4), (5, .int l5), (6, .int l6), (7, .int l7), (9, .int l9)]) hx hb dL_store_277 hl (by decide) rfl (fun ls hl => ?_)
          refine lv_iconst (v := 1) hx hb dL_store_279 (by decide) ?_
          refine lv_topi (fun x134 ex134 => ?_)
          replace h := h x134 ex134
          refine lv_istore (lv' := [(10, .int x134), (8, .int x133), (0, .ref b), (1, .int l1), (2, .ref l2), (3, .ref l3), (4, .ref l4), (5, .int l5), (6, .int l6), (7, .int l7), (9, .int l9)]) hx hb dL_store_280 hl (by decide) rfl (fun ls hl => ?_)
          obtain ⟨n9, h⟩ := h
          exact bk_L_store_282 C0 hl9 hXs hbl  (K115 := K) hK9 (K194 := wp_L_store_194 xs LL Q K n) ih n9 _ _ _ _ _ _ _ _ _ _ _ _ _ _ cl9 sl9 kc ks hcc hss h hh hS (lv_sub hl [2, 3, 4, 5, 6, 7, 8, 9, 1, 10, 0] rfl)
        · replace h := h.2 c132
          refine lv_aload_n hx hb dL_store_216 rfl (lv_at hl 2 rfl) ?_
          refine lv_iload hx hb dL_store_217 (lv_at hl 9 rfl) ?_
          refine xc_l (va_runS (As := [.ref l2, .int l9]) (rest := []) ⟨hx, hb, hml, hown, hts⟩ (mt_L_tale l hl9 G base h) (va_cwS 2 hts gL_store_L_tale rfl rfl rfl (by decide +kernel) ⟨Nat.le_of_ble_eq_true rfl, Nat.le_of_ble_eq_true rfl⟩) (xp_S hbase hh hK hX hS) rfl rfl hl.1 rfl (lv_room (Nat.le_of_ble_eq_true rfl)) dL_store_219 ⟨by show _ ≤ MC; omega, by show _ ≤ MS; omega⟩) hS (fun r161 m162 H locs h hh hS => ?_)
          refine lv_aload_n hx hb dL_store_222 rfl (lv_at hl 3 rfl) ?_
          refine lv_iload hx hb dL_store_223 (lv_at hl 9 rfl) ?_
          refine xc_l (va_runS (As := [.ref l3, .int l9]) (rest := [.long r161]) ⟨hx, hb, hml, hown, hts⟩ (mt_L_tale l hl9 G base h) (va_cwS 2 hts gL_store_L_tale rfl rfl rfl (by decide +kernel) ⟨Nat.le_of_ble_eq_true rfl, Nat.le_of_ble_eq_true rfl⟩) (xp_S hbase hh hK hX hS) rfl rfl hl.1 rfl (lv_room (Nat.le_of_ble_eq_true rfl)) dL_store_225 ⟨by show _ ≤ MC; omega, by show _ ≤ MS; omega⟩) hS (fun r163 m164 H locs h hh hS => ?_)
          refine W.lcmp hx hb dL_store_228 ?_
          refine lv_if_ne (tgt := 276) hx hb dL_store_229 (by decide) (fun c165 => ?_) (fun c165 => ?_)
          · replace h := h.1 c165
            refine lv_iconst (v := 0) hx hb dL_store_276 (by decide) ?_
            refine lv_topi (fun x166 ex166 => ?_)
            replace h := h x166 ex166
            refine lv_istore (lv' := [(8, .int x166), (0, .ref b), (1, .int l1), (2, .ref l2), (3, .ref l3), (4, .ref l4), (5, .int l5), (6, .int l6), (7, .int l7), (9, .int l9)]) hx hb dL_store_277 hl (by decide) rfl (fun ls hl => ?_)
            refine lv_iconst (v := 1) hx hb dL_store_279 (by decide) ?_
            refine lv_topi (fun x167 ex167 => ?_)
            replace h := h x167 ex167
            refine lv_istore (lv' := [(10, .int x167), (8, .int x166), (0, .ref b), (1, .int l1), (2, .ref l2), (3, .ref l3), (4, .ref l4), (5, .int l5), (6, .int l6), (7, .int l7), (9, .int l9)]) hx hb dL_store_280 hl (by decide) rfl (fun ls hl => ?_)
            obtain ⟨n9, h⟩ := h
            exact bk_L_store_282 C0 hl9 hXs hbl  (K115 := K) hK9 (K194 := wp_L_store_194 xs LL Q K n) ih n9 _ _ _ _ _ _ _ _ _ _ _ _ _ _ cl9 sl9 kc ks hcc hss h hh hS (lv_sub hl [2, 3, 4, 5, 6, 7, 8, 9, 1, 10, 0] rfl)
          · replace h := h.2 c165
            refine lv_aload_n hx hb dL_store_232 rfl (lv_at hl 2 rfl) ?_
            refine lv_aload hx hb dL_store_233 (lv_at hl 4 rfl) ?_
            refine lv_iload hx hb dL_store_235 (lv_at hl 9 rfl) ?_
            refine lv_iload hx hb dL_store_237 (lv_at hl 6 rfl) ?_
            refine lv_iconst (v := 3) hx hb dL_store_239 (by decide) ?_
            refine lv_idiv hx hb dL_store_240 (by decide) ?_
            refine lv_iload hx hb dL_store_241 (lv_at hl 7 rfl) ?_
            refine lv_iconst (v := 3) hx hb dL_store_243 (by decide) ?_
            refine lv_idiv hx hb dL_store_244 (by decide) ?_
            refine xc_i (va_runS (As := [.ref l2, .ref l4, .int l9, .int (l6 / (3 : Int32)), .int (l7 / (3 : Int32))]) (rest := []) ⟨hx, hb, hml, hown, hts⟩ (mt_L_areWindows l hl9 G base h) (va_cwS 5 hts gL_store_L_areWindows rfl rfl rfl (by decide +kernel) ⟨Nat.le_of_ble_eq_true rfl, Nat.le_of_ble_eq_true rfl⟩) (xp_S hbase hh hK hX hS) rfl rfl hl.1 rfl (lv_room (Nat.le_of_ble_eq_true rfl)) dL_store_245 ⟨by show _ ≤ MC; omega, by show _ ≤ MS; omega⟩) hS (fun r168 m169 H locs h hh hS => ?_)
            refine lv_if_eq (tgt := 276) hx hb dL_store_248 (by decide) (fun c170 => ?_) (fun c170 => ?_)
            · replace h := h.1 c170
              refine lv_iconst (v := 0) hx hb dL_store_276 (by decide) ?_
              refine lv_topi (fun x171 ex171 => ?_)
              replace h := h x171 ex171
              refine lv_istore (lv' := [(8, .int x171), (0, .ref b), (1, .int l1), (2, .ref l2), (3, .ref l3), (4, .ref l4), (5, .int l5), (6, .int l6), (7, .int l7), (9, .int l9)]) hx hb dL_store_277 hl (by decide) rfl (fun ls hl => ?_)
              refine lv_iconst (v := 1) hx hb dL_store_279 (by decide) ?_
              refine lv_topi (fun x172 ex172 => ?_)
              replace h := h x172 ex172
              refine lv_istore (lv' := [(10, .int x172), (8, .int x171), (0, .ref b), (1, .int l1), (2, .ref l2), (3, .ref l3), (4, .ref l4), (5, .int l5), (6, .int l6), (7, .int l7), (9, .int l9)]) hx hb dL_store_280 hl (by decide) rfl (fun ls hl => ?_)
              obtain ⟨n9, h⟩ := h
              exact bk_L_store_282 C0 hl9 hXs hbl  (K115 := K) hK9 (K194 := wp_L_store_194 xs LL Q K n) ih n9 _ _ _ _ _ _ _ _ _ _ _ _ _ _ cl9 sl9 kc ks hcc hss h hh hS (lv_sub hl [2, 3, 4, 5, 6, 7, 8, 9, 1, 10, 0] rfl)
            · replace h := h.2 c170
              refine lv_aload_n hx hb dL_store_251 rfl (lv_at hl 2 rfl) ?_
              refine lv_aload hx hb dL_store_252 (lv_at hl 4 rfl) ?_
              refine lv_iload hx hb dL_store_254 (lv_at hl 9 rfl) ?_
              refine lv_iload hx hb dL_store_256 (lv_at hl 7 rfl) ?_
              refine lv_bipush (v := 7) hx hb dL_store_258 (by decide) ?_
              refine lv_idiv hx hb dL_store_260 (by decide) ?_
              refine lv_iload hx hb dL_store_261 (lv_at hl 6 rfl) ?_
              refine lv_bipush (v := 7) hx hb dL_store_263 (by decide) ?_
              refine lv_idiv hx hb dL_store_265 (by decide) ?_
              refine xc_i (va_runS (As := [.ref l2, .ref l4, .int l9, .int (l7 / (7 : Int32)), .int (l6 / (7 : Int32))]) (rest := []) ⟨hx, hb, hml, hown, hts⟩ (mt_L_areWindows l hl9 G base h) (va_cwS 5 hts gL_store_L_areWindows rfl rfl rfl (by decide +kernel) ⟨Nat.le_of_ble_eq_true rfl, Nat.le_of_ble_eq_true rfl⟩) (xp_S hbase hh hK hX hS) rfl rfl hl.1 rfl (lv_room (Nat.le_of_ble_eq_true rfl)) dL_store_266 ⟨by show _ ≤ MC; omega, by show _ ≤ MS; omega⟩) hS (fun r173 m174 H locs h hh hS => ?_)
              refine lv_if_eq (tgt := 276) hx hb dL_store_269 (by decide) (fun c175 => ?_) (fun c175 => ?_)
              · replace h := h.1 c175
                refine lv_iconst (v := 0) hx hb dL_store_276 (by decide) ?_
                refine lv_topi (fun x176 ex176 => ?_)
                replace h := h x176 ex176
                refine lv_istore (lv' := [(8, .int x176), (0, .ref b), (1, .int l1), (2, .ref l2), (3, .ref l3), (4, .ref l4), (5, .int l5), (6, .int l6), (7, .int l7), (9, .int l9)]) hx hb dL_store_277 hl (by decide) rfl (fun ls hl => ?_)
                refine lv_iconst (v := 1) hx hb dL_store_279 (by decide) ?_
                refine lv_topi (fun x177 ex177 => ?_)
                replace h := h x177 ex177
                refine lv_istore (lv' := [(10, .int x177), (8, .int x176), (0, .ref b), (1, .int l1), (2, .ref l2), (3, .ref l3), (4, .ref l4), (5, .int l5), (6, .int l6), (7, .int l7), (9, .int l9)]) hx hb dL_store_280 hl (by decide) rfl (fun ls hl => ?_)
                obtain ⟨n9, h⟩ := h
                exact bk_L_store_282 C0 hl9 hXs hbl  (K115 := K) hK9 (K194 := wp_L_store_194 xs LL Q K n) ih n9 _ _ _ _ _ _ _ _ _ _ _ _ _ _ cl9 sl9 kc ks hcc hss h hh hS (lv_sub hl [2, 3, 4, 5, 6, 7, 8, 9, 1, 10, 0] rfl)
              · replace h := h.2 c175
                refine lv_iconst (v := 1) hx hb dL_store_272 (by decide) ?_
                refine lv_goto (tgt := 277) hx hb dL_store_273 (by decide) ?_
                refine lv_topi (fun x178 ex178 => ?_)
                replace h := h x178 ex178
                refine lv_istore (lv' := [(8, .int x178), (0, .ref b), (1, .int l1), (2, .ref l2), (3, .ref l3), (4, .ref l4), (5, .int l5), (6, .int l6), (7, .int l7), (9, .int l9)]) hx hb dL_store_277 hl (by decide) rfl (fun ls hl => ?_)
                refine lv_iconst (v := 1) hx hb dL_store_279 (by decide) ?_
                refine lv_topi (fun x179 ex179 => ?_)
                replace h := h x179 ex179
                refine lv_istore (lv' := [(10, .int x179), (8, .int x178), (0, .ref b), (1, .int l1), (2, .ref l2), (3, .ref l3), (4, .ref l4), (5, .int l5), (6, .int l6), (7, .int l7), (9, .int l9)]) hx hb dL_store_280 hl (by decide) rfl (fun ls hl => ?_)
                obtain ⟨n9, h⟩ := h
                exact bk_L_store_282 C0 hl9 hXs hbl  (K115 := K) hK9 (K194 := wp_L_store_194 xs LL Q K n) ih n9 _ _ _ _ _ _ _ _ _ _ _ _ _ _ cl9 sl9 kc ks hcc hss h hh hS (lv_sub hl [2, 3, 4, 5, 6, 7, 8, 9, 1, 10, 0] rfl)

set_option maxHeartbeats 4000000 in
set_option maxRecDepth 100000 in
theorem bk_L_store_115 {b LL : Nat} {xs : Nat → Int32} {p : Program} {l : Launch} {e : Env} {s : State} {m : MethodId} {args : Array Value} {below : List Frame} {meth : Method} {c : Code} {G : GG} {base : Nat} {MC MS : Nat} (C0 : BC p s m args meth c G base RL cL_store 12 (some .boolean) wsL_store) (hl9 : l.stackTraces = false) (hXs : va_X b LL xs s s.heap) (hbl : b < base) {Q : Int32 → MM → Prop} : ∀ (n : Nat) (l1 : Int32) (l2 : Nat) (l3 : Nat) (l4 : Nat) (l5 : Int32) (m0 : MM) (H : Heap) (locs : List Loc) (ls : Array Slot) (cl9 sl9 kc ks : Nat) (hcc : cl9 + kc ≤ MC) (hss : sl9 + ks ≤ MS), wp_L_store_115 xs LL Q n l1 l2 l3 l4 l5 m0 kc ks → hp G (xA base) m0 H → va_S (xA base) s.heap H locs → lv_has ls 12 [(0, .ref b), (1, .int l1), (2, .ref l2), (3, .ref l3), (4, .ref l4), (5, .int l5)] → W p l e ({ frames := 14, cells := MC, slots := MS, locals := 298 } : Room) s m args below meth c H locs cl9 sl9 (MQ below (va_Qi Q (HB G base) (xA base)) args s MC MS (xA base)) (F0 m 115 ls []) := by
  obtain ⟨hx, hb, hr, hml, hown, hts, hlocks, hK, hbase, hX⟩ := id C0
  have hbl2 := Nat.lt_of_lt_of_le hbl hbase
  have hbA : ¬ xA base b := Nat.not_le.mpr hbl
  intro n
  induction n with
  | zero =>
    intro l1 l2 l3 l4 l5 m0 H locs ls cl9 sl9 kc ks hcc hss h
    unfold wp_L_store_115 at h
    exact h.elim
  | succ n ih =>
    intro l1 l2 l3 l4 l5 m0 H locs ls cl9 sl9 kc ks hcc hss h hh hS hl
    unfold wp_L_store_115 at h
    have q1 : (Cond.constant RL 179 (1073741824)).before _ s = true := hts _ (List.mem_cons_of_mem _ (List.mem_append_left _ (List.mem_append_left _ (List.mem_append_left _ (List.mem_append_left _ (List.mem_append_left _ (List.mem_append_left _ (List.mem_append_left _ (List.mem_append_left _ (List.mem_append_left _ (List.mem_append_left _ (List.mem_of_getElem? (i := 8) rfl))))))))))))
    refine lv_iload hx hb dL_store_115 (lv_at hl 5 rfl) ?_
    refine lv_bipush (v := 36) hx hb dL_store_117 (by decide) ?_
    refine lv_icmp_ge (tgt := 387) hx hb dL_store_119 (by decide) (fun c105 => ?_) (fun c105 => ?_)
    · replace h := h.1 c105
      refine lv_iconst (v := 1) hx hb dL_store_387 (by decide) ?_
      exact (xe_z hx hb hr hlocks hbase hh hK hX hS (Or.inr rfl) h (by omega) (by omega) dL_store_388)
    · replace h := h.2 c105
      refine lv_aload_n hx hb dL_store_122 rfl (lv_at hl 0 rfl) ?_
      refine lv_iload_n hx hb dL_store_123 rfl (lv_at hl 1 rfl) ?_
      refine lv_iconst (v := 3) hx hb dL_store_124 (by decide) ?_
      refine lv_iload hx hb dL_store_125 (lv_at hl 5 rfl) ?_
      refine lv_imul hx hb dL_store_127 ?_
      refine lv_iadd hx hb dL_store_128 ?_
      refine lv_iconst (v := 2) hx hb dL_store_129 (by decide) ?_
      refine lv_iadd hx hb dL_store_130 ?_
      refine lv_ldc hx hb hown q1 dL_store_131 ?_
      refine xc_i (va_runS (As := [.ref b, .int ((l1 + ((3 : Int32) * l5)) + (2 : Int32)), .int (1073741824 : Int32)]) (rest := []) ⟨hx, hb, hml, hown, hts⟩ (mt_L_draw l hl9 G base h) (va_cwS 3 hts gL_store_L_draw rfl rfl rfl (by decide +kernel) ⟨Nat.le_of_ble_eq_true rfl, Nat.le_of_ble_eq_true rfl⟩) (xs_S hbase hh hK hX hS hXs hbl) rfl rfl hl.1 rfl (lv_room (Nat.le_of_ble_eq_true rfl)) dL_store_133 ⟨by show _ ≤ MC; omega, by show _ ≤ MS; omega⟩) hS (fun r106 m107 H locs h hh hS => ?_)
      refine lv_istore (lv' := [(6, .int r106), (0, .ref b), (1, .int l1), (2, .ref l2), (3, .ref l3), (4, .ref l4), (5, .int l5)]) hx hb dL_store_136 hl (by decide) rfl (fun ls hl => ?_)
      refine lv_aload_n hx hb dL_store_138 rfl (lv_at hl 1 rfl) ?_
      refine lv_iload_n hx hb dL_store_139 rfl (lv_at hl 2 rfl) ?_
      refine lv_iconst (v := 3) hx hb dL_store_140 (by decide) ?_
      refine lv_iload hx hb dL_store_141 (lv_at hl 6 rfl) ?_
      refine lv_imul hx hb dL_store_143 ?_
      refine lv_iadd hx hb dL_store_144 ?_
      refine lv_iconst (v := 3) hx hb dL_store_145 (by decide) ?_
      refine lv_iadd hx hb dL_store_146 ?_
      refine lv_ldc hx hb hown q1 dL_store_147 ?_
      refine xc_i (va_runS (As := [.ref b, .int ((l1 + ((3 : Int32) * l5)) + (3 : Int32)), .int (1073741824 : Int32)]) (rest := []) ⟨hx, hb, hml, hown, hts⟩ (mt_L_draw l hl9 G base h) (va_cwS 3 hts gL_store_L_draw rfl rfl rfl (by decide +kernel) ⟨Nat.le_of_ble_eq_true rfl, Nat.le_of_ble_eq_true rfl⟩) (xs_S hbase hh hK hX hS hXs hbl) rfl rfl hl.1 rfl (lv_room (Nat.le_of_ble_eq_true rfl)) dL_store_149 ⟨by show _ ≤ MC; omega, by show _ ≤ MS; omega⟩) hS (fun r108 m109 H locs h hh hS => ?_)
      refine lv_istore (lv' := [(7, .int r108), (6, .int r106), (0, .ref b), (1, .int l1), (2, .ref l2), (3, .ref l3), (4, .ref l4), (5, .int l5)]) hx hb dL_store_152 hl (by decide) rfl (fun ls hl => ?_)
      refine lv_aload_n hx hb dL_store_154 rfl (lv_at hl 4 rfl) ?_
      refine lv_aload_n hx hb dL_store_155 rfl (lv_at hl 5 rfl) ?_
      refine lv_iload hx hb dL_store_156 (lv_at hl 7 rfl) ?_
      refine lv_iconst (v := 4) hx hb dL_store_158 (by decide) ?_
      refine lv_icmp_ge (tgt := 166) hx hb dL_store_159 (by decide) (fun c110 => ?_) (fun c110 => ?_)
      · replace h := h.1 c110
        refine lv_aload_n hx hb dL_store_166 rfl (lv_at hl 2 rfl) ?_
        refine lv_iload_n hx hb dL_store_167 rfl (lv_at hl 3 rfl) ?_
        refine lv_iconst (v := 3) hx hb dL_store_168 (by decide) ?_
        refine lv_iload hx hb dL_store_169 (lv_at hl 7 rfl) ?_
        refine lv_imul hx hb dL_store_171 ?_
        refine lv_iadd hx hb dL_store_172 ?_
        refine lv_iconst (v := 1) hx hb dL_store_173 (by decide) ?_
        refine lv_iadd hx hb dL_store_174 ?_
        refine lv_bipush (v := 12) hx hb dL_store_175 (by decide) ?_
        refine xc_i (va_runS (As := [.ref b, .int ((l1 + ((3 : Int32) * l5)) + (1 : Int32)), .int (12 : Int32)]) (rest := [.ref l3, .ref l2]) ⟨hx, hb, hml, hown, hts⟩ (mt_L_draw l hl9 G base h) (va_cwS 3 hts gL_store_L_draw rfl rfl rfl (by decide +kernel) ⟨Nat.le_of_ble_eq_true rfl, Nat.le_of_ble_eq_true rfl⟩) (xs_S hbase hh hK hX hS hXs hbl) rfl rfl hl.1 rfl (lv_room (Nat.le_of_ble_eq_true rfl)) dL_store_177 ⟨by show _ ≤ MC; omega, by show _ ≤ MS; omega⟩) hS (fun r111 m112 H locs h hh hS => ?_)
        refine lv_iload hx hb dL_store_180 (lv_at hl 1 rfl) ?_
        refine lv_iload hx hb dL_store_182 (lv_at hl 0 rfl) ?_
        refine lv_aload hx hb dL_store_184 (lv_at hl 6 rfl) ?_
        obtain ⟨c113, s114, g115, g116, h⟩ := h
        refine xc_i (va_runS (As := [.ref l2, .ref l3, .int r111, .int r106, .int r108, .ref l4]) (rest := []) ⟨hx, hb, hml, hown, hts⟩ (mt_L_step l hl9 G base h) (va_cwS 6 hts gL_store_L_step rfl rfl rfl (by decide +kernel) ⟨Nat.le_of_ble_eq_true rfl, Nat.le_of_ble_eq_true rfl⟩) (xp_S hbase hh hK hX hS) rfl rfl hl.1 rfl (lv_room (Nat.le_of_ble_eq_true rfl)) dL_store_186 ⟨by show _ ≤ MC; omega, by show _ ≤ MS; omega⟩) hS (fun r117 m118 H locs h hh hS => ?_)
        obtain ⟨kc119, ekc119⟩ : ∃ z : Nat, z = kc - c113 := ⟨_, rfl⟩
        obtain ⟨ks120, eks120⟩ : ∃ z : Nat, z = ks - s114 := ⟨_, rfl⟩
        replace h := h kc119 ks120 ekc119 eks120
        obtain ⟨cl121, ecl121⟩ : ∃ z : Nat, z = cl9 + c113 := ⟨_, rfl⟩
        obtain ⟨sl122, esl122⟩ : ∃ z : Nat, z = sl9 + s114 := ⟨_, rfl⟩
        refine W_cs ecl121 esl122 ?_
        have hcc : cl121 + kc119 ≤ MC := by omega
        have hss : sl122 + ks120 ≤ MS := by omega
        refine lv_istore (lv' := [(8, .int r117), (7, .int r108), (6, .int r106), (0, .ref b), (1, .int l1), (2, .ref l2), (3, .ref l3), (4, .ref l4), (5, .int l5)]) hx hb dL_store_189 hl (by decide) rfl (fun ls hl => ?_)
        refine lv_iconst (v := 0) hx hb dL_store_191 (by decide) ?_
        refine lv_topi (fun x123 ex123 => ?_)
        replace h := h x123 ex123
        refine lv_istore (lv' := [(9, .int x123), (8, .int r117), (7, .int r108), (6, .int r106), (0, .ref b), (1, .int l1), (2, .ref l2), (3, .ref l3), (4, .ref l4), (5, .int l5)]) hx hb dL_store_192 hl (by decide) rfl (fun ls hl => ?_)
        obtain ⟨n9, h⟩ := h
        exact bk_L_store_194 C0 hl9 hXs hbl  (K := wp_L_store_115 xs LL Q n) ih n9 _ _ _ _ _ _ _ _ _ _ _ _ _ cl121 sl122 kc119 ks120 hcc hss h hh hS (lv_sub hl [4, 5, 6, 7, 8, 9, 3, 2, 1, 0] rfl)
      · replace h := h.2 c110
        refine lv_iconst (v := 3) hx hb dL_store_162 (by decide) ?_
        refine lv_goto (tgt := 180) hx hb dL_store_163 (by decide) ?_
        refine lv_iload hx hb dL_store_180 (lv_at hl 1 rfl) ?_
        refine lv_iload hx hb dL_store_182 (lv_at hl 0 rfl) ?_
        refine lv_aload hx hb dL_store_184 (lv_at hl 6 rfl) ?_
        obtain ⟨c180, s181, g182, g183, h⟩ := h
        refine xc_i (va_runS (As := [.ref l2, .ref l3, .int (3 : Int32), .int r106, .int r108, .ref l4]) (rest := []) ⟨hx, hb, hml, hown, hts⟩ (mt_L_step l hl9 G base h) (va_cwS 6 hts gL_store_L_step rfl rfl rfl (by decide +kernel) ⟨Nat.le_of_ble_eq_true rfl, Nat.le_of_ble_eq_true rfl⟩) (xp_S hbase hh hK hX hS) rfl rfl hl.1 rfl (lv_room (Nat.le_of_ble_eq_true rfl)) dL_store_186 ⟨by show _ ≤ MC; omega, by show _ ≤ MS; omega⟩) hS (fun r184 m185 H locs h hh hS => ?_)
        obtain ⟨kc186, ekc186⟩ : ∃ z : Nat, z = kc - c180 := ⟨_, rfl⟩
        obtain ⟨ks187, eks187⟩ : ∃ z : Nat, z = ks - s181 := ⟨_, rfl⟩
        replace h := h kc186 ks187 ekc186 eks187
        obtain ⟨cl188, ecl188⟩ : ∃ z : Nat, z = cl9 + c180 := ⟨_, rfl⟩
        obtain ⟨sl189, esl189⟩ : ∃ z : Nat, z = sl9 + s181 := ⟨_, rfl⟩
        refine W_cs ecl188 esl189 ?_
        have hcc : cl188 + kc186 ≤ MC := by omega
        have hss : sl189 + ks187 ≤ MS := by omega
        refine lv_istore (lv' := [(8, .int r184), (7, .int r108), (6, .int r106), (0, .ref b), (1, .int l1), (2, .ref l2), (3, .ref l3), (4, .ref l4), (5, .int l5)]) hx hb dL_store_189 hl (by decide) rfl (fun ls hl => ?_)
        refine lv_iconst (v := 0) hx hb dL_store_191 (by decide) ?_
        refine lv_topi (fun x190 ex190 => ?_)
        replace h := h x190 ex190
        refine lv_istore (lv' := [(9, .int x190), (8, .int r184), (7, .int r108), (6, .int r106), (0, .ref b), (1, .int l1), (2, .ref l2), (3, .ref l3), (4, .ref l4), (5, .int l5)]) hx hb dL_store_192 hl (by decide) rfl (fun ls hl => ?_)
        obtain ⟨n9, h⟩ := h
        exact bk_L_store_194 C0 hl9 hXs hbl  (K := wp_L_store_115 xs LL Q n) ih n9 _ _ _ _ _ _ _ _ _ _ _ _ _ cl188 sl189 kc186 ks187 hcc hss h hh hS (lv_sub hl [4, 5, 6, 7, 8, 9, 3, 2, 1, 0] rfl)

set_option maxHeartbeats 4000000 in
set_option maxRecDepth 100000 in
theorem mt_L_store (l : Launch) (hl9 : l.stackTraces = false) (G : GG) (base : Nat) {b LL : Nat} {xs : Nat → Int32} {p2 : Int32} {m0 : MM} {Q : Int32 → MM → Prop} {kc ks : Nat} (h : wp_L_store p2 m0 xs LL Q kc ks) : Met l yL_store wsL_store ({ frames := 14, cells := kc, slots := ks, locals := 298 }) (va_Pc [.ref b, .int p2] (SX G base m0 b LL xs)) (va_Qi Q (HB G base) (xA base)) kc ks (xA base) := by
  refine Met.ofW (cc := cL_store) (maxL := 12) (ret := (some .boolean)) (by decide) rfl ?_
  intro p e s m args below meth c s₁ B hml hv
  obtain ⟨rfl, ⟨hbase, hh, hK, hX⟩, hXs, hbl⟩ := hv
  have C0 : BC p s m _ meth c G base RL cL_store 12 (some .boolean) wsL_store := ⟨B.exec, B.bytes, B.returns, hml, findClass_of_methodNamed B.named, atoms_spec (ws := wsL_store) B.pre, B.notSynchronized, hK, hbase, hX⟩
  obtain ⟨hx, hb, hr, -, hown, hts, hlocks, -, -, -⟩ := id C0
  have hbl2 := Nat.lt_of_lt_of_le hbl hbase
  have hbA : ¬ xA base b := Nat.not_le.mpr hbl
  have hS : va_S (xA base) s.heap s.heap [] := va_S.rf
  have hl := lv_entry ([.ref b, .int p2]) (n := 12) (Nat.le_of_ble_eq_true rfl)
  rw [lg_entry_eq]
  generalize (lg_sl ([.ref b, .int p2]) ++ List.replicate (12 - (lg_sl ([.ref b, .int p2])).length) Slot.unset).toArray = ls at hl ⊢
  have hl : lv_has ls 12 [(0, .ref b), (1, .int p2)] := hl
  unfold wp_L_store at h
  have hcc : 0 + kc ≤ kc := by omega
  have hss : 0 + ks ≤ ks := by omega
  have hL5 : ∀ w ∈ u_ws RX5 TX5 7, w.before _ s = true := fun w h9 => hts w (List.mem_cons_of_mem _ (List.mem_append_left _ (List.mem_append_left _ (List.mem_append_left _ (List.mem_append_left _ (List.mem_append_left _ (List.mem_append_left _ (List.mem_append_left _ (List.mem_append_left _ (List.mem_append_right _ (h9)))))))))))
  have q2 : (Cond.classLink RL 18 RX5).before _ s = true := hts _ (List.mem_cons_of_mem _ (List.mem_append_left _ (List.mem_append_left _ (List.mem_append_left _ (List.mem_append_left _ (List.mem_append_left _ (List.mem_append_left _ (List.mem_append_left _ (List.mem_append_left _ (List.mem_append_left _ (List.mem_append_left _ (List.mem_of_getElem? (i := 0) rfl))))))))))))
  have q3 : (Cond.instantiable RX5 7).before _ s = true := hts _ (List.mem_cons_of_mem _ (List.mem_append_left _ (List.mem_append_left _ (List.mem_append_left _ (List.mem_append_left _ (List.mem_append_left _ (List.mem_append_left _ (List.mem_append_left _ (List.mem_append_left _ (List.mem_append_left _ (List.mem_append_left _ (List.mem_of_getElem? (i := 1) rfl))))))))))))
  have q4 : (Cond.initialized RX5).before _ s = true := hts _ (List.mem_cons_of_mem _ (List.mem_append_left _ (List.mem_append_left _ (List.mem_append_left _ (List.mem_append_left _ (List.mem_append_left _ (List.mem_append_left _ (List.mem_append_left _ (List.mem_append_left _ (List.mem_append_left _ (List.mem_append_left _ (List.mem_of_getElem? (i := 2) rfl))))))))))))
  have q5 : (Cond.methodLink RL 168 yX5_init).before _ s = true := hts _ (List.mem_cons_of_mem _ (List.mem_append_left _ (List.mem_append_left _ (List.mem_append_left _ (List.mem_append_left _ (List.mem_append_left _ (List.mem_append_left _ (List.mem_append_left _ (List.mem_append_left _ (List.mem_append_left _ (List.mem_append_left _ (List.mem_of_getElem? (i := 9) rfl))))))))))))
  have q6 : (Cond.instanceMethod yX5_init).before _ s = true := hts _ (List.mem_cons_of_mem _ (List.mem_append_left _ (List.mem_append_left _ (List.mem_append_left _ (List.mem_append_left _ (List.mem_append_left _ (List.mem_append_left _ (List.mem_append_left _ (List.mem_append_left _ (List.mem_append_left _ (List.mem_append_left _ (List.mem_of_getElem? (i := 10) rfl))))))))))))
  have q7 : (Cond.arrayClass .int).before _ s = true := hts _ (List.mem_cons_of_mem _ (List.mem_append_left _ (List.mem_append_left _ (List.mem_append_left _ (List.mem_append_left _ (List.mem_append_left _ (List.mem_append_left _ (List.mem_append_left _ (List.mem_append_left _ (List.mem_append_left _ (List.mem_append_left _ (List.mem_of_getElem? (i := 3) rfl))))))))))))
  have q8 : (Cond.constant RL 10 (86400)).before _ s = true := hts _ (List.mem_cons_of_mem _ (List.mem_append_left _ (List.mem_append_left _ (List.mem_append_left _ (List.mem_append_left _ (List.mem_append_left _ (List.mem_append_left _ (List.mem_append_left _ (List.mem_append_left _ (List.mem_append_left _ (List.mem_append_left _ (List.mem_of_getElem? (i := 4) rfl))))))))))))
  have q9 : (Cond.constant RL 169 (864000)).before _ s = true := hts _ (List.mem_cons_of_mem _ (List.mem_append_left _ (List.mem_append_left _ (List.mem_append_left _ (List.mem_append_left _ (List.mem_append_left _ (List.mem_append_left _ (List.mem_append_left _ (List.mem_append_left _ (List.mem_append_left _ (List.mem_append_left _ (List.mem_of_getElem? (i := 5) rfl))))))))))))
  have q10 : (Cond.constant RL 170 (8640000)).before _ s = true := hts _ (List.mem_cons_of_mem _ (List.mem_append_left _ (List.mem_append_left _ (List.mem_append_left _ (List.mem_append_left _ (List.mem_append_left _ (List.mem_append_left _ (List.mem_append_left _ (List.mem_append_left _ (List.mem_append_left _ (List.mem_append_left _ (List.mem_of_getElem? (i := 6) rfl))))))))))))
  have q11 : (Cond.constant RL 174 (200000)).before _ s = true := hts _ (List.mem_cons_of_mem _ (List.mem_append_left _ (List.mem_append_left _ (List.mem_append_left _ (List.mem_append_left _ (List.mem_append_left _ (List.mem_append_left _ (List.mem_append_left _ (List.mem_append_left _ (List.mem_append_left _ (List.mem_append_left _ (List.mem_of_getElem? (i := 7) rfl))))))))))))
  obtain ⟨g2, g3, h⟩ := h
  refine xr_new (ci := 5) (C := RX5) (T := TX5) (N := 7) hx hb hL5 tyX5 tyX5_ok hown q2 q3 q4 hK hh hS hbase (by decide) rfl xd_5 (by show _ ≤ kc; omega) (by show _ ≤ ks; omega) dL_store_0 (fun a1 H ga1 gba1 hh hS => ?_)
  replace h := h a1 ga1
  obtain ⟨m4, em4⟩ : ∃ z : MM, z = nw m0 6 0 a1 := ⟨_, rfl⟩
  rw [← em4] at hh
  replace h := h m4 em4
  obtain ⟨kc5, ekc5⟩ : ∃ z : Nat, z = kc - 1 := ⟨_, rfl⟩
  obtain ⟨ks6, eks6⟩ : ∃ z : Nat, z = ks - 7 := ⟨_, rfl⟩
  replace h := h kc5 ks6 ekc5 eks6
  obtain ⟨cl7, ecl7⟩ : ∃ z : Nat, z = 0 + 1 := ⟨_, rfl⟩
  obtain ⟨sl8, esl8⟩ : ∃ z : Nat, z = 0 + 7 := ⟨_, rfl⟩
  refine W_cs ecl7 esl8 ?_
  have hcc : cl7 + kc5 ≤ kc := by omega
  have hss : sl8 + ks6 ≤ ks := by omega
  refine lv_dup hx hb dL_store_3 rfl ?_
  obtain ⟨g9, g10, h⟩ := h
  refine xc_v (va_runI (As := []) (rest := [.ref a1]) ⟨hx, hb, hml, hown, hts⟩ (mt_X5_init l G base h) (cwI 0 hts gL_store_X5_init rfl rfl rfl q4 q5 q6 rfl (by decide +kernel) ⟨Nat.le_of_ble_eq_true rfl, Nat.le_of_ble_eq_true rfl⟩) (xp_S hbase hh hK hX hS) rfl rfl hl.1 rfl (lv_room (Nat.le_of_ble_eq_true rfl)) dL_store_4 ⟨by show _ ≤ kc; omega, by show _ ≤ ks; omega⟩) hS (fun m12 H locs h hh hS => ?_)
  obtain ⟨kc13, ekc13⟩ : ∃ z : Nat, z = kc5 - 5 := ⟨_, rfl⟩
  obtain ⟨ks14, eks14⟩ : ∃ z : Nat, z = ks6 - 26 := ⟨_, rfl⟩
  replace h := h kc13 ks14 ekc13 eks14
  obtain ⟨cl15, ecl15⟩ : ∃ z : Nat, z = cl7 + 5 := ⟨_, rfl⟩
  obtain ⟨sl16, esl16⟩ : ∃ z : Nat, z = sl8 + 26 := ⟨_, rfl⟩
  refine W_cs ecl15 esl16 ?_
  have hcc : cl15 + kc13 ≤ kc := by omega
  have hss : sl16 + ks14 ≤ ks := by omega
  refine lv_astore_n (lv' := [(2, .ref a1), (0, .ref b), (1, .int p2)]) hx hb dL_store_7 rfl hl (by decide) rfl (fun ls hl => ?_)
  obtain ⟨g18, g19, h⟩ := h
  refine xr_new (ci := 5) (C := RX5) (T := TX5) (N := 7) hx hb hL5 tyX5 tyX5_ok hown q2 q3 q4 hK hh hS hbase (by decide) rfl xd_5 (by show _ ≤ kc; omega) (by show _ ≤ ks; omega) dL_store_8 (fun a17 H ga17 gba17 hh hS => ?_)
  replace h := h a17 ga17
  obtain ⟨m20, em20⟩ : ∃ z : MM, z = nw m12 6 0 a17 := ⟨_, rfl⟩
  rw [← em20] at hh
  replace h := h m20 em20
  obtain ⟨kc21, ekc21⟩ : ∃ z : Nat, z = kc13 - 1 := ⟨_, rfl⟩
  obtain ⟨ks22, eks22⟩ : ∃ z : Nat, z = ks14 - 7 := ⟨_, rfl⟩
  replace h := h kc21 ks22 ekc21 eks22
  obtain ⟨cl23, ecl23⟩ : ∃ z : Nat, z = cl15 + 1 := ⟨_, rfl⟩
  obtain ⟨sl24, esl24⟩ : ∃ z : Nat, z = sl16 + 7 := ⟨_, rfl⟩
  refine W_cs ecl23 esl24 ?_
  have hcc : cl23 + kc21 ≤ kc := by omega
  have hss : sl24 + ks22 ≤ ks := by omega
  refine lv_dup hx hb dL_store_11 rfl ?_
  obtain ⟨g25, g26, h⟩ := h
  refine xc_v (va_runI (As := []) (rest := [.ref a17]) ⟨hx, hb, hml, hown, hts⟩ (mt_X5_init l G base h) (cwI 0 hts gL_store_X5_init rfl rfl rfl q4 q5 q6 rfl (by decide +kernel) ⟨Nat.le_of_ble_eq_true rfl, Nat.le_of_ble_eq_true rfl⟩) (xp_S hbase hh hK hX hS) rfl rfl hl.1 rfl (lv_room (Nat.le_of_ble_eq_true rfl)) dL_store_12 ⟨by show _ ≤ kc; omega, by show _ ≤ ks; omega⟩) hS (fun m28 H locs h hh hS => ?_)
  obtain ⟨kc29, ekc29⟩ : ∃ z : Nat, z = kc21 - 5 := ⟨_, rfl⟩
  obtain ⟨ks30, eks30⟩ : ∃ z : Nat, z = ks22 - 26 := ⟨_, rfl⟩
  replace h := h kc29 ks30 ekc29 eks30
  obtain ⟨cl31, ecl31⟩ : ∃ z : Nat, z = cl23 + 5 := ⟨_, rfl⟩
  obtain ⟨sl32, esl32⟩ : ∃ z : Nat, z = sl24 + 26 := ⟨_, rfl⟩
  refine W_cs ecl31 esl32 ?_
  have hcc : cl31 + kc29 ≤ kc := by omega
  have hss : sl32 + ks30 ≤ ks := by omega
  refine lv_astore_n (lv' := [(3, .ref a17), (2, .ref a1), (0, .ref b), (1, .int p2)]) hx hb dL_store_15 rfl hl (by decide) rfl (fun ls hl => ?_)
  refine lv_bipush (v := 10) hx hb dL_store_16 (by decide) ?_
  obtain ⟨g34, g35, h⟩ := h
  refine xr_newi hx hb q7 hK hh hS hbase (n := 10) (N' := 10) (by decide) (by decide) (by decide) (by show _ ≤ kc; omega) (by show _ ≤ ks; omega) dL_store_18 (fun a33 H ga33 gba33 hh hS => ?_)
  replace h := h a33 ga33
  obtain ⟨m36, em36⟩ : ∃ z : MM, z = nw m28 11 10 a33 := ⟨_, rfl⟩
  rw [← em36] at hh
  replace h := h m36 em36
  obtain ⟨kc37, ekc37⟩ : ∃ z : Nat, z = kc29 - 1 := ⟨_, rfl⟩
  obtain ⟨ks38, eks38⟩ : ∃ z : Nat, z = ks30 - 10 := ⟨_, rfl⟩
  replace h := h kc37 ks38 ekc37 eks38
  obtain ⟨cl39, ecl39⟩ : ∃ z : Nat, z = cl31 + 1 := ⟨_, rfl⟩
  obtain ⟨sl40, esl40⟩ : ∃ z : Nat, z = sl32 + 10 := ⟨_, rfl⟩
  refine W_cs ecl39 esl40 ?_
  have hcc : cl39 + kc37 ≤ kc := by omega
  have hss : sl40 + ks38 ≤ ks := by omega
  refine lv_astore (lv' := [(4, .ref a33), (3, .ref a17), (2, .ref a1), (0, .ref b), (1, .int p2)]) hx hb dL_store_20 hl (by decide) rfl (fun ls hl => ?_)
  refine lv_aload hx hb dL_store_22 (lv_at hl 0 rfl) ?_
  refine lv_iconst (v := 0) hx hb dL_store_24 (by decide) ?_
  refine lv_iconst (v := 0) hx hb dL_store_25 (by decide) ?_
  obtain ⟨g41, h⟩ := h
  obtain ⟨g42, h⟩ := h
  refine xr_iast hx hb hK hh g41 hS g42 dL_store_26 (fun H locs hh hS => ?_)
  obtain ⟨m43, em43⟩ : ∃ z : MM, z = sAI m36 a33 (va_up (mAI m36 a33) (0 : Int32).toNatClampNeg (0 : Int32)) := ⟨_, rfl⟩
  rw [← em43] at hh
  replace h := h m43 em43
  refine lv_aload hx hb dL_store_27 (lv_at hl 0 rfl) ?_
  refine lv_iconst (v := 1) hx hb dL_store_29 (by decide) ?_
  refine lv_iconst (v := 1) hx hb dL_store_30 (by decide) ?_
  obtain ⟨g44, h⟩ := h
  obtain ⟨g45, h⟩ := h
  refine xr_iast hx hb hK hh g44 hS g45 dL_store_31 (fun H locs hh hS => ?_)
  obtain ⟨m46, em46⟩ : ∃ z : MM, z = sAI m43 a33 (va_up (mAI m43 a33) (1 : Int32).toNatClampNeg (1 : Int32)) := ⟨_, rfl⟩
  rw [← em46] at hh
  replace h := h m46 em46
  refine lv_aload hx hb dL_store_32 (lv_at hl 0 rfl) ?_
  refine lv_iconst (v := 2) hx hb dL_store_34 (by decide) ?_
  refine lv_sipush (v := 7200) hx hb dL_store_35 (by decide) ?_
  obtain ⟨g47, h⟩ := h
  obtain ⟨g48, h⟩ := h
  refine xr_iast hx hb hK hh g47 hS g48 dL_store_38 (fun H locs hh hS => ?_)
  obtain ⟨m49, em49⟩ : ∃ z : MM, z = sAI m46 a33 (va_up (mAI m46 a33) (2 : Int32).toNatClampNeg (7200 : Int32)) := ⟨_, rfl⟩
  rw [← em49] at hh
  replace h := h m49 em49
  refine lv_aload hx hb dL_store_39 (lv_at hl 0 rfl) ?_
  refine lv_iconst (v := 3) hx hb dL_store_41 (by decide) ?_
  refine lv_ldc hx hb hown q8 dL_store_42 ?_
  obtain ⟨g50, h⟩ := h
  obtain ⟨g51, h⟩ := h
  refine xr_iast hx hb hK hh g50 hS g51 dL_store_44 (fun H locs hh hS => ?_)
  obtain ⟨m52, em52⟩ : ∃ z : MM, z = sAI m49 a33 (va_up (mAI m49 a33) (3 : Int32).toNatClampNeg (86400 : Int32)) := ⟨_, rfl⟩
  rw [← em52] at hh
  replace h := h m52 em52
  refine lv_aload hx hb dL_store_45 (lv_at hl 0 rfl) ?_
  refine lv_iconst (v := 4) hx hb dL_store_47 (by decide) ?_
  refine lv_ldc hx hb hown q9 dL_store_48 ?_
  obtain ⟨g53, h⟩ := h
  obtain ⟨g54, h⟩ := h
  refine xr_iast hx hb hK hh g53 hS g54 dL_store_50 (fun H locs hh hS => ?_)
  obtain ⟨m55, em55⟩ : ∃ z : MM, z = sAI m52 a33 (va_up (mAI m52 a33) (4 : Int32).toNatClampNeg (864000 : Int32)) := ⟨_, rfl⟩
  rw [← em55] at hh
  replace h := h m55 em55
  refine lv_aload hx hb dL_store_51 (lv_at hl 0 rfl) ?_
  refine lv_iconst (v := 5) hx hb dL_store_53 (by decide) ?_
  refine lv_ldc hx hb hown q10 dL_store_54 ?_
  obtain ⟨g56, h⟩ := h
  obtain ⟨g57, h⟩ := h
  refine xr_iast hx hb hK hh g56 hS g57 dL_store_56 (fun H locs hh hS => ?_)
  obtain ⟨m58, em58⟩ : ∃ z : MM, z = sAI m55 a33 (va_up (mAI m55 a33) (5 : Int32).toNatClampNeg (8640000 : Int32)) := ⟨_, rfl⟩
  rw [← em58] at hh
  replace h := h m58 em58
  refine lv_aload_n hx hb dL_store_57 rfl (lv_at hl 2 rfl) ?_
  refine lv_iconst (v := 0) hx hb dL_store_58 (by decide) ?_
  obtain ⟨g59, g60, h⟩ := h
  obtain ⟨g61, h⟩ := h
  refine xc_i (va_runV (As := [.int (0 : Int32)]) (rest := []) ⟨hx, hb, hml, hown, hts⟩ (mtq_X5_addSeries l G base h) (cwV 1 hts gL_store_X5_addSeries rfl rfl rfl (by decide +kernel) ⟨Nat.le_of_ble_eq_true rfl, Nat.le_of_ble_eq_true rfl⟩) (xp_V hbase hh hK hX hS (ci := 5) g61 (by decide) rfl) rfl rfl hl.1 rfl (lv_room (Nat.le_of_ble_eq_true rfl)) dL_store_59 ⟨by show _ ≤ kc; omega, by show _ ≤ ks; omega⟩) hS (fun r62 m63 H locs h hh hS => ?_)
  obtain ⟨kc64, ekc64⟩ : ∃ z : Nat, z = kc37 - 10 := ⟨_, rfl⟩
  obtain ⟨ks65, eks65⟩ : ∃ z : Nat, z = ks38 - 241 := ⟨_, rfl⟩
  replace h := h kc64 ks65 ekc64 eks65
  obtain ⟨cl66, ecl66⟩ : ∃ z : Nat, z = cl39 + 10 := ⟨_, rfl⟩
  obtain ⟨sl67, esl67⟩ : ∃ z : Nat, z = sl40 + 241 := ⟨_, rfl⟩
  refine W_cs ecl66 esl67 ?_
  have hcc : cl66 + kc64 ≤ kc := by omega
  have hss : sl67 + ks65 ≤ ks := by omega
  refine lv_if_ne (tgt := 110) hx hb dL_store_62 (by decide) (fun c68 => ?_) (fun c68 => ?_)
  · replace h := h.1 c68
    refine lv_iconst (v := 0) hx hb dL_store_110 (by decide) ?_
    exact (xe_z hx hb hr hlocks hbase hh hK hX hS (Or.inl rfl) h (by omega) (by omega) dL_store_111)
  · replace h := h.2 c68
    refine lv_aload_n hx hb dL_store_65 rfl (lv_at hl 1 rfl) ?_
    refine lv_iconst (v := 0) hx hb dL_store_66 (by decide) ?_
    obtain ⟨g69, g70, h⟩ := h
    obtain ⟨g71, h⟩ := h
    refine xc_i (va_runV (As := [.int (0 : Int32)]) (rest := []) ⟨hx, hb, hml, hown, hts⟩ (mtq_X5_addSeries l G base h) (cwV 1 hts gL_store_X5_addSeries rfl rfl rfl (by decide +kernel) ⟨Nat.le_of_ble_eq_true rfl, Nat.le_of_ble_eq_true rfl⟩) (xp_V hbase hh hK hX hS (ci := 5) g71 (by decide) rfl) rfl rfl hl.1 rfl (lv_room (Nat.le_of_ble_eq_true rfl)) dL_store_67 ⟨by show _ ≤ kc; omega, by show _ ≤ ks; omega⟩) hS (fun r72 m73 H locs h hh hS => ?_)
    obtain ⟨kc74, ekc74⟩ : ∃ z : Nat, z = kc64 - 10 := ⟨_, rfl⟩
    obtain ⟨ks75, eks75⟩ : ∃ z : Nat, z = ks65 - 241 := ⟨_, rfl⟩
    replace h := h kc74 ks75 ekc74 eks75
    obtain ⟨cl76, ecl76⟩ : ∃ z : Nat, z = cl66 + 10 := ⟨_, rfl⟩
    obtain ⟨sl77, esl77⟩ : ∃ z : Nat, z = sl67 + 241 := ⟨_, rfl⟩
    refine W_cs ecl76 esl77 ?_
    have hcc : cl76 + kc74 ≤ kc := by omega
    have hss : sl77 + ks75 ≤ ks := by omega
    refine lv_if_ne (tgt := 110) hx hb dL_store_70 (by decide) (fun c78 => ?_) (fun c78 => ?_)
    · replace h := h.1 c78
      refine lv_iconst (v := 0) hx hb dL_store_110 (by decide) ?_
      exact (xe_z hx hb hr hlocks hbase hh hK hX hS (Or.inl rfl) h (by omega) (by omega) dL_store_111)
    · replace h := h.2 c78
      refine lv_aload_n hx hb dL_store_73 rfl (lv_at hl 2 rfl) ?_
      refine lv_iconst (v := 1) hx hb dL_store_74 (by decide) ?_
      obtain ⟨g79, g80, h⟩ := h
      obtain ⟨g81, h⟩ := h
      refine xc_i (va_runV (As := [.int (1 : Int32)]) (rest := []) ⟨hx, hb, hml, hown, hts⟩ (mtq_X5_addSeries l G base h) (cwV 1 hts gL_store_X5_addSeries rfl rfl rfl (by decide +kernel) ⟨Nat.le_of_ble_eq_true rfl, Nat.le_of_ble_eq_true rfl⟩) (xp_V hbase hh hK hX hS (ci := 5) g81 (by decide) rfl) rfl rfl hl.1 rfl (lv_room (Nat.le_of_ble_eq_true rfl)) dL_store_75 ⟨by show _ ≤ kc; omega, by show _ ≤ ks; omega⟩) hS (fun r82 m83 H locs h hh hS => ?_)
      obtain ⟨kc84, ekc84⟩ : ∃ z : Nat, z = kc74 - 10 := ⟨_, rfl⟩
      obtain ⟨ks85, eks85⟩ : ∃ z : Nat, z = ks75 - 241 := ⟨_, rfl⟩
      replace h := h kc84 ks85 ekc84 eks85
      obtain ⟨cl86, ecl86⟩ : ∃ z : Nat, z = cl76 + 10 := ⟨_, rfl⟩
      obtain ⟨sl87, esl87⟩ : ∃ z : Nat, z = sl77 + 241 := ⟨_, rfl⟩
      refine W_cs ecl86 esl87 ?_
      have hcc : cl86 + kc84 ≤ kc := by omega
      have hss : sl87 + ks85 ≤ ks := by omega
      refine lv_iconst (v := 1) hx hb dL_store_78 (by decide) ?_
      refine lv_icmp_ne (tgt := 110) hx hb dL_store_79 (by decide) (fun c88 => ?_) (fun c88 => ?_)
      · replace h := h.1 c88
        refine lv_iconst (v := 0) hx hb dL_store_110 (by decide) ?_
        exact (xe_z hx hb hr hlocks hbase hh hK hX hS (Or.inl rfl) h (by omega) (by omega) dL_store_111)
      · replace h := h.2 c88
        refine lv_aload_n hx hb dL_store_82 rfl (lv_at hl 1 rfl) ?_
        refine lv_iconst (v := 1) hx hb dL_store_83 (by decide) ?_
        obtain ⟨g89, g90, h⟩ := h
        obtain ⟨g91, h⟩ := h
        refine xc_i (va_runV (As := [.int (1 : Int32)]) (rest := []) ⟨hx, hb, hml, hown, hts⟩ (mtq_X5_addSeries l G base h) (cwV 1 hts gL_store_X5_addSeries rfl rfl rfl (by decide +kernel) ⟨Nat.le_of_ble_eq_true rfl, Nat.le_of_ble_eq_true rfl⟩) (xp_V hbase hh hK hX hS (ci := 5) g91 (by decide) rfl) rfl rfl hl.1 rfl (lv_room (Nat.le_of_ble_eq_true rfl)) dL_store_84 ⟨by show _ ≤ kc; omega, by show _ ≤ ks; omega⟩) hS (fun r92 m93 H locs h hh hS => ?_)
        obtain ⟨kc94, ekc94⟩ : ∃ z : Nat, z = kc84 - 10 := ⟨_, rfl⟩
        obtain ⟨ks95, eks95⟩ : ∃ z : Nat, z = ks85 - 241 := ⟨_, rfl⟩
        replace h := h kc94 ks95 ekc94 eks95
        obtain ⟨cl96, ecl96⟩ : ∃ z : Nat, z = cl86 + 10 := ⟨_, rfl⟩
        obtain ⟨sl97, esl97⟩ : ∃ z : Nat, z = sl87 + 241 := ⟨_, rfl⟩
        refine W_cs ecl96 esl97 ?_
        have hcc : cl96 + kc94 ≤ kc := by omega
        have hss : sl97 + ks95 ≤ ks := by omega
        refine lv_iconst (v := 1) hx hb dL_store_87 (by decide) ?_
        refine lv_icmp_ne (tgt := 110) hx hb dL_store_88 (by decide) (fun c98 => ?_) (fun c98 => ?_)
        · replace h := h.1 c98
          refine lv_iconst (v := 0) hx hb dL_store_110 (by decide) ?_
          exact (xe_z hx hb hr hlocks hbase hh hK hX hS (Or.inl rfl) h (by omega) (by omega) dL_store_111)
        · replace h := h.2 c98
          refine lv_aload_n hx hb dL_store_91 rfl (lv_at hl 2 rfl) ?_
          refine lv_aload_n hx hb dL_store_92 rfl (lv_at hl 1 rfl) ?_
          refine lv_aload hx hb dL_store_93 (lv_at hl 0 rfl) ?_
          refine lv_iconst (v := 1) hx hb dL_store_95 (by decide) ?_
          refine lv_aload_n hx hb dL_store_96 rfl (lv_at hl 3 rfl) ?_
          refine lv_iload_n hx hb dL_store_97 rfl (lv_at hl 4 rfl) ?_
          refine lv_ldc hx hb hown q11 dL_store_98 ?_
          refine xc_i (va_runS (As := [.ref b, .int p2, .int (200000 : Int32)]) (rest := [.int (1 : Int32), .ref a33, .ref a17, .ref a1]) ⟨hx, hb, hml, hown, hts⟩ (mt_L_draw l hl9 G base h) (va_cwS 3 hts gL_store_L_draw rfl rfl rfl (by decide +kernel) ⟨Nat.le_of_ble_eq_true rfl, Nat.le_of_ble_eq_true rfl⟩) (xs_S hbase hh hK hX hS hXs hbl) rfl rfl hl.1 rfl (lv_room (Nat.le_of_ble_eq_true rfl)) dL_store_100 ⟨by show _ ≤ kc; omega, by show _ ≤ ks; omega⟩) hS (fun r99 m100 H locs h hh hS => ?_)
          refine lv_iadd hx hb dL_store_103 ?_
          refine xc_i (va_runS (As := [.ref a1, .ref a17, .ref a33, .int ((1 : Int32) + r99)]) (rest := []) ⟨hx, hb, hml, hown, hts⟩ (mt_L_goesOn l hl9 G base h) (va_cwS 4 hts gL_store_L_goesOn rfl rfl rfl (by decide +kernel) ⟨Nat.le_of_ble_eq_true rfl, Nat.le_of_ble_eq_true rfl⟩) (xp_S hbase hh hK hX hS) rfl rfl hl.1 rfl (lv_room (Nat.le_of_ble_eq_true rfl)) dL_store_104 ⟨by show _ ≤ kc; omega, by show _ ≤ ks; omega⟩) hS (fun r101 m102 H locs h hh hS => ?_)
          refine lv_if_ne (tgt := 112) hx hb dL_store_107 (by decide) (fun c103 => ?_) (fun c103 => ?_)
          · replace h := h.1 c103
            refine lv_iconst (v := 0) hx hb dL_store_112 (by decide) ?_
            refine lv_topi (fun x104 ex104 => ?_)
            replace h := h x104 ex104
            refine lv_istore (lv' := [(5, .int x104), (4, .ref a33), (3, .ref a17), (2, .ref a1), (0, .ref b), (1, .int p2)]) hx hb dL_store_113 hl (by decide) rfl (fun ls hl => ?_)
            obtain ⟨n9, h⟩ := h
            exact bk_L_store_115 C0 hl9 hXs hbl  n9 _ _ _ _ _ _ _ _ _ cl96 sl97 kc94 ks95 hcc hss h hh hS (lv_sub hl [4, 5, 3, 2, 1, 0] rfl)
          · replace h := h.2 c103
            refine lv_iconst (v := 0) hx hb dL_store_110 (by decide) ?_
            exact (xe_z hx hb hr hlocks hbase hh hK hX hS (Or.inl rfl) h (by omega) (by omega) dL_store_111)
