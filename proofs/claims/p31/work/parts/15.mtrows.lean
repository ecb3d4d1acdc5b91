/-! EACH METHOD AS ITS wp SAYS: written by wip/whole/gen.py -/
set_option maxHeartbeats 4000000 in
set_option maxRecDepth 100000 in
theorem mt_X2_rowOrNull (l : Launch) (G : GG) (base : Nat) {a0 : Nat} {p1 : Int32} {m0 : MM} {Q : Option Nat → MM → Prop} (h : wp_X2_rowOrNull a0 p1 m0 Q) : Met l yX2_rowOrNull wsX2_rowOrNull ({ frames := 0, cells := 0, slots := 0, locals := 8 }) (va_Pc [.ref a0, .int p1] (SP G base m0)) (va_Qq Q (HB G base) (xA base)) 0 0 (xA base) := by
  refine Met.ofW (cc := cX2_rowOrNull) (maxL := 2) (ret := (some (.object "RollupStore$Rollup"))) (by decide) rfl ?_
  intro p e s m args below meth c s₁ B hml hv
  obtain ⟨rfl, hbase, hh, hK, hX⟩ := hv
  have C0 : BC p s m _ meth c G base RX2 cX2_rowOrNull 2 (some (.object "RollupStore$Rollup")) wsX2_rowOrNull := ⟨B.exec, B.bytes, B.returns, hml, findClass_of_methodNamed B.named, atoms_spec (ws := wsX2_rowOrNull) B.pre, B.notSynchronized, hK, hbase, hX⟩
  obtain ⟨hx, hb, hr, -, hown, hts, hlocks, -, -, -⟩ := id C0
  have hS : va_S (xA base) s.heap s.heap [] := va_S.rf
  have hl := lv_entry ([.ref a0, .int p1]) (n := 2) (Nat.le_of_ble_eq_true rfl)
  rw [lg_entry_eq]
  generalize (lg_sl ([.ref a0, .int p1]) ++ List.replicate (2 - (lg_sl ([.ref a0, .int p1])).length) Slot.unset).toArray = ls at hl ⊢
  have hl : lv_has ls 2 [(0, .ref a0), (1, .int p1)] := hl
  unfold wp_X2_rowOrNull at h
  have hL2 : ∀ w ∈ u_ws RX2 TX2 3, w.before _ s = true := fun w h9 => hts w (List.mem_cons_of_mem _ (List.mem_append_right _ (h9)))
  have q2 : (Cond.fieldLink RX2 28 "RollupStore$Rollups" "kept" "I").before _ s = true := hts _ (List.mem_cons_of_mem _ (List.mem_append_left _ (List.mem_of_getElem? (i := 0) rfl)))
  have q3 : (Cond.fieldLink RX2 11 "RollupStore$Rollups" "rows" "[LRollupStore$Rollup;").before _ s = true := hts _ (List.mem_cons_of_mem _ (List.mem_append_left _ (List.mem_of_getElem? (i := 1) rfl)))
  refine lv_iload_n hx hb dX2_rowOrNull_0 rfl (lv_at hl 1 rfl) ?_
  refine lv_if_lt (tgt := 12) hx hb dX2_rowOrNull_1 (by decide) (fun c1 => ?_) (fun c1 => ?_)
  · replace h := h.1 c1
    refine lv_null hx hb dX2_rowOrNull_12 ?_
    refine lv_goto (tgt := 22) hx hb dX2_rowOrNull_13 (by decide) ?_
    exact (xe_q (v := none) hx hb hr hlocks hbase hh hK hX hS h (Nat.le_of_ble_eq_true rfl) (Nat.le_of_ble_eq_true rfl) dX2_rowOrNull_22)
  · replace h := h.2 c1
    refine lv_iload_n hx hb dX2_rowOrNull_4 rfl (lv_at hl 1 rfl) ?_
    refine lv_aload_n hx hb dX2_rowOrNull_5 rfl (lv_at hl 0 rfl) ?_
    obtain ⟨g2, h⟩ := h
    refine xr_getI (ci := 2) (C := RX2) (T := TX2) (N := 3) hx hb hL2 hown hK hh g2 (by decide) rfl 2 42 rfl rfl (by decide) (by decide) q2 (fun _ h9 => h9) dX2_rowOrNull_6 ?_
    refine lv_icmp_lt (tgt := 16) hx hb dX2_rowOrNull_9 (by decide) (fun c3 => ?_) (fun c3 => ?_)
    · replace h := h.1 c3
      refine lv_aload_n hx hb dX2_rowOrNull_16 rfl (lv_at hl 0 rfl) ?_
      obtain ⟨g4, h⟩ := h
      obtain ⟨b5, eb5, h⟩ := h
      refine xr_getR (ci := 2) (C := RX2) (T := TX2) (N := 3) hx hb hL2 hown hK hh g4 (by decide) rfl 1 41 rfl rfl (by decide) (by decide) q3 (fun _ h9 => h9) eb5 dX2_rowOrNull_17 ?_
      refine lv_iload_n hx hb dX2_rowOrNull_20 rfl (lv_at hl 1 rfl) ?_
      obtain ⟨g6, h⟩ := h
      obtain ⟨g7, h⟩ := h
      refine xr_qald hx hb hK hh g6 g7 dX2_rowOrNull_21 (fun o8 eo8 => ?_)
      replace h := h o8 eo8
      exact (xe_q (v := o8) hx hb hr hlocks hbase hh hK hX hS h (Nat.le_of_ble_eq_true rfl) (Nat.le_of_ble_eq_true rfl) dX2_rowOrNull_22)
    · replace h := h.2 c3
      refine lv_null hx hb dX2_rowOrNull_12 ?_
      refine lv_goto (tgt := 22) hx hb dX2_rowOrNull_13 (by decide) ?_
      exact (xe_q (v := none) hx hb hr hlocks hbase hh hK hX hS h (Nat.le_of_ble_eq_true rfl) (Nat.le_of_ble_eq_true rfl) dX2_rowOrNull_22)

set_option maxHeartbeats 4000000 in
set_option maxRecDepth 100000 in
theorem bk_X2_placeFrom_6 {p : Program} {l : Launch} {e : Env} {s : State} {m : MethodId} {args : Array Value} {below : List Frame} {meth : Method} {c : Code} {G : GG} {base : Nat} (C0 : BC p s m args meth c G base RX2 cX2_placeFrom 5 (some .int) wsX2_placeFrom) {Q : Int32 → MM → Prop} : ∀ (n : Nat) (l0 : Nat) (l1 : Int32) (l2 : Int32) (l3 : Int32) (m0 : MM) (H : Heap) (locs : List Loc) (ls : Array Slot), wp_X2_placeFrom_6 Q n l0 l1 l2 l3 m0 → hp G (xA base) m0 H → va_S (xA base) s.heap H locs → lv_has ls 5 [(0, .ref l0), (1, .int l1), (2, .int l2), (3, .int l3)] → W p l e ({ frames := 1, cells := 0, slots := 0, locals := 29 } : Room) s m args below meth c H locs 0 0 (MQ below (va_Qi Q (HB G base) (xA base)) args s 0 0 (xA base)) (F0 m 6 ls []) := by
  obtain ⟨hx, hb, hr, hml, hown, hts, hlocks, hK, hbase, hX⟩ := id C0
  intro n
  induction n with
  | zero =>
    intro l0 l1 l2 l3 m0 H locs ls h
    unfold wp_X2_placeFrom_6 at h
    exact h.elim
  | succ n ih =>
    intro l0 l1 l2 l3 m0 H locs ls h hh hS hl
    unfold wp_X2_placeFrom_6 at h
    have hL1 : ∀ w ∈ u_ws RX1 TX1 8, w.before _ s = true := fun w h9 => hts w (List.mem_cons_of_mem _ (List.mem_append_left _ (List.mem_append_right _ (h9))))
    have q2 : (Cond.fieldLink RX2 25 "RollupStore$Rollup" "begin" "I").before _ s = true := hts _ (List.mem_cons_of_mem _ (List.mem_append_left _ (List.mem_append_left _ (List.mem_of_getElem? (i := 0) rfl))))
    refine lv_iload_n hx hb dX2_placeFrom_6 rfl (lv_at hl 3 rfl) ?_
    refine lv_if_le (tgt := 46) hx hb dX2_placeFrom_7 (by decide) (fun c3 => ?_) (fun c3 => ?_)
    · replace h := h.1 c3
      refine lv_iload_n hx hb dX2_placeFrom_46 rfl (lv_at hl 2 rfl) ?_
      exact (xe_i hx hb hr hlocks hbase hh hK hX hS h (Nat.le_of_ble_eq_true rfl) (Nat.le_of_ble_eq_true rfl) dX2_placeFrom_47)
    · replace h := h.2 c3
      refine lv_aload_n hx hb dX2_placeFrom_10 rfl (lv_at hl 0 rfl) ?_
      refine lv_iload_n hx hb dX2_placeFrom_11 rfl (lv_at hl 2 rfl) ?_
      refine lv_iload_n hx hb dX2_placeFrom_12 rfl (lv_at hl 3 rfl) ?_
      refine lv_iadd hx hb dX2_placeFrom_13 ?_
      refine lv_iconst (v := 1) hx hb dX2_placeFrom_14 (by decide) ?_
      refine lv_isub hx hb dX2_placeFrom_15 ?_
      obtain ⟨g4, h⟩ := h
      refine xc_q (va_runV (As := [.int ((l2 + l3) - (1 : Int32))]) (rest := []) ⟨hx, hb, hml, hown, hts⟩ (mt_X2_rowOrNull l G base h) (cwV 1 hts gX2_placeFrom_X2_rowOrNull rfl rfl rfl (by decide +kernel) ⟨Nat.le_of_ble_eq_true rfl, Nat.le_of_ble_eq_true rfl⟩) (xp_V hbase hh hK hX hS (ci := 2) g4 (by decide) rfl) rfl rfl hl.1 rfl (lv_room (Nat.le_of_ble_eq_true rfl)) dX2_placeFrom_16 ⟨Nat.le_of_ble_eq_true rfl, Nat.le_of_ble_eq_true rfl⟩) hS (fun r5 m6 H locs h hh hS => ?_)
      rcases r5 with _ | b7
      · refine W.eq (g2 := F0 m 19 ls [.null]) rfl ?_
        replace h := h.1 rfl
        refine lv_astoreN (lv' := [(4, .null), (0, .ref l0), (1, .int l1), (2, .int l2), (3, .int l3)]) hx hb dX2_placeFrom_19 hl (by decide) rfl (fun ls hl => ?_)
        refine lv_aloadN hx hb dX2_placeFrom_21 (lv_at hl 0 rfl) ?_
        refine lv_ifnullN (tgt := 39) hx hb dX2_placeFrom_23 (by decide) ?_
        refine lv_iload_n hx hb dX2_placeFrom_39 rfl (lv_at hl 4 rfl) ?_
        refine lv_iconst (v := 1) hx hb dX2_placeFrom_40 (by decide) ?_
        refine lv_ishr hx hb dX2_placeFrom_41 ?_
        refine lv_topi (fun x8 ex8 => ?_)
        replace h := h x8 ex8
        refine lv_istore_n (lv' := [(3, .int x8), (4, .null), (0, .ref l0), (1, .int l1), (2, .int l2)]) hx hb dX2_placeFrom_42 rfl hl (by decide) rfl (fun ls hl => ?_)
        refine lv_goto (tgt := 6) hx hb dX2_placeFrom_43 (by decide) ?_
        exact ih _ _ _ _ _ _ _ _ h hh hS (lv_sub hl [2, 3, 4, 0] rfl)
      · refine W.eq (g2 := F0 m 19 ls [.ref b7]) rfl ?_
        replace h := h.2 b7 rfl
        refine lv_astore (lv' := [(4, .ref b7), (0, .ref l0), (1, .int l1), (2, .int l2), (3, .int l3)]) hx hb dX2_placeFrom_19 hl (by decide) rfl (fun ls hl => ?_)
        refine lv_aload hx hb dX2_placeFrom_21 (lv_at hl 0 rfl) ?_
        refine lv_ifnull hx hb dX2_placeFrom_23 ?_
        refine lv_aload hx hb dX2_placeFrom_26 (lv_at hl 0 rfl) ?_
        obtain ⟨g9, h⟩ := h
        refine xr_getI (ci := 1) (C := RX1) (T := TX1) (N := 8) hx hb hL1 hown hK hh g9 (by decide) rfl 0 20 rfl rfl (by decide) (by decide) q2 (fun _ h9 => h9) dX2_placeFrom_28 ?_
        refine lv_iload_n hx hb dX2_placeFrom_31 rfl (lv_at hl 2 rfl) ?_
        refine lv_icmp_ge (tgt := 39) hx hb dX2_placeFrom_32 (by decide) (fun c10 => ?_) (fun c10 => ?_)
        · replace h := h.1 c10
          refine lv_iload_n hx hb dX2_placeFrom_39 rfl (lv_at hl 4 rfl) ?_
          refine lv_iconst (v := 1) hx hb dX2_placeFrom_40 (by decide) ?_
          refine lv_ishr hx hb dX2_placeFrom_41 ?_
          refine lv_topi (fun x11 ex11 => ?_)
          replace h := h x11 ex11
          refine lv_istore_n (lv' := [(3, .int x11), (4, .ref b7), (0, .ref l0), (1, .int l1), (2, .int l2)]) hx hb dX2_placeFrom_42 rfl hl (by decide) rfl (fun ls hl => ?_)
          refine lv_goto (tgt := 6) hx hb dX2_placeFrom_43 (by decide) ?_
          exact ih _ _ _ _ _ _ _ _ h hh hS (lv_sub hl [2, 3, 4, 0] rfl)
        · replace h := h.2 c10
          refine lv_iload_n hx hb dX2_placeFrom_35 rfl (lv_at hl 3 rfl) ?_
          refine lv_iload_n hx hb dX2_placeFrom_36 rfl (lv_at hl 4 rfl) ?_
          refine lv_iadd hx hb dX2_placeFrom_37 ?_
          refine lv_topi (fun x12 ex12 => ?_)
          replace h := h x12 ex12
          refine lv_istore_n (lv' := [(2, .int x12), (4, .ref b7), (0, .ref l0), (1, .int l1), (3, .int l3)]) hx hb dX2_placeFrom_38 rfl hl (by decide) rfl (fun ls hl => ?_)
          refine lv_iload_n hx hb dX2_placeFrom_39 rfl (lv_at hl 4 rfl) ?_
          refine lv_iconst (v := 1) hx hb dX2_placeFrom_40 (by decide) ?_
          refine lv_ishr hx hb dX2_placeFrom_41 ?_
          refine lv_topi (fun x13 ex13 => ?_)
          replace h := h x13 ex13
          refine lv_istore_n (lv' := [(3, .int x13), (2, .int x12), (4, .ref b7), (0, .ref l0), (1, .int l1)]) hx hb dX2_placeFrom_42 rfl hl (by decide) rfl (fun ls hl => ?_)
          refine lv_goto (tgt := 6) hx hb dX2_placeFrom_43 (by decide) ?_
          exact ih _ _ _ _ _ _ _ _ h hh hS (lv_sub hl [3, 4, 1, 0] rfl)

set_option maxHeartbeats 4000000 in
set_option maxRecDepth 100000 in
theorem mt_X2_placeFrom (l : Launch) (G : GG) (base : Nat) {a0 : Nat} {p1 : Int32} {m0 : MM} {Q : Int32 → MM → Prop} (h : wp_X2_placeFrom a0 p1 m0 Q) : Met l yX2_placeFrom wsX2_placeFrom ({ frames := 1, cells := 0, slots := 0, locals := 29 }) (va_Pc [.ref a0, .int p1] (SP G base m0)) (va_Qi Q (HB G base) (xA base)) 0 0 (xA base) := by
  refine Met.ofW (cc := cX2_placeFrom) (maxL := 5) (ret := (some .int)) (by decide) rfl ?_
  intro p e s m args below meth c s₁ B hml hv
  obtain ⟨rfl, hbase, hh, hK, hX⟩ := hv
  have C0 : BC p s m _ meth c G base RX2 cX2_placeFrom 5 (some .int) wsX2_placeFrom := ⟨B.exec, B.bytes, B.returns, hml, findClass_of_methodNamed B.named, atoms_spec (ws := wsX2_placeFrom) B.pre, B.notSynchronized, hK, hbase, hX⟩
  obtain ⟨hx, hb, hr, -, hown, hts, hlocks, -, -, -⟩ := id C0
  have hS : va_S (xA base) s.heap s.heap [] := va_S.rf
  have hl := lv_entry ([.ref a0, .int p1]) (n := 5) (Nat.le_of_ble_eq_true rfl)
  rw [lg_entry_eq]
  generalize (lg_sl ([.ref a0, .int p1]) ++ List.replicate (5 - (lg_sl ([.ref a0, .int p1])).length) Slot.unset).toArray = ls at hl ⊢
  have hl : lv_has ls 5 [(0, .ref a0), (1, .int p1)] := hl
  unfold wp_X2_placeFrom at h
  refine lv_iconst (v := 0) hx hb dX2_placeFrom_0 (by decide) ?_
  refine lv_topi (fun x1 ex1 => ?_)
  replace h := h x1 ex1
  refine lv_istore_n (lv' := [(2, .int x1), (0, .ref a0), (1, .int p1)]) hx hb dX2_placeFrom_1 rfl hl (by decide) rfl (fun ls hl => ?_)
  refine lv_sipush (v := 16384) hx hb dX2_placeFrom_2 (by decide) ?_
  refine lv_topi (fun x2 ex2 => ?_)
  replace h := h x2 ex2
  refine lv_istore_n (lv' := [(3, .int x2), (2, .int x1), (0, .ref a0), (1, .int p1)]) hx hb dX2_placeFrom_5 rfl hl (by decide) rfl (fun ls hl => ?_)
  obtain ⟨n9, h⟩ := h
  exact bk_X2_placeFrom_6 C0  n9 _ _ _ _ _ _ _ _ h hh hS (lv_sub hl [2, 3, 1, 0] rfl)

set_option maxHeartbeats 4000000 in
set_option maxRecDepth 100000 in
theorem mt_X2_find (l : Launch) (G : GG) (base : Nat) {a0 : Nat} {p1 : Int32} {m0 : MM} {Q : Option Nat → MM → Prop} (h : wp_X2_find a0 p1 m0 Q) : Met l yX2_find wsX2_find ({ frames := 2, cells := 0, slots := 0, locals := 53 }) (va_Pc [.ref a0, .int p1] (SP G base m0)) (va_Qq Q (HB G base) (xA base)) 0 0 (xA base) := by
  refine Met.ofW (cc := cX2_find) (maxL := 3) (ret := (some (.object "RollupStore$Rollup"))) (by decide) rfl ?_
  intro p e s m args below meth c s₁ B hml hv
  obtain ⟨rfl, hbase, hh, hK, hX⟩ := hv
  have C0 : BC p s m _ meth c G base RX2 cX2_find 3 (some (.object "RollupStore$Rollup")) wsX2_find := ⟨B.exec, B.bytes, B.returns, hml, findClass_of_methodNamed B.named, atoms_spec (ws := wsX2_find) B.pre, B.notSynchronized, hK, hbase, hX⟩
  obtain ⟨hx, hb, hr, -, hown, hts, hlocks, -, -, -⟩ := id C0
  have hS : va_S (xA base) s.heap s.heap [] := va_S.rf
  have hl := lv_entry ([.ref a0, .int p1]) (n := 3) (Nat.le_of_ble_eq_true rfl)
  rw [lg_entry_eq]
  generalize (lg_sl ([.ref a0, .int p1]) ++ List.replicate (3 - (lg_sl ([.ref a0, .int p1])).length) Slot.unset).toArray = ls at hl ⊢
  have hl : lv_has ls 3 [(0, .ref a0), (1, .int p1)] := hl
  unfold wp_X2_find at h
  have hL1 : ∀ w ∈ u_ws RX1 TX1 8, w.before _ s = true := fun w h9 => hts w (List.mem_cons_of_mem _ (List.mem_append_left _ (List.mem_append_right _ (h9))))
  have q2 : (Cond.fieldLink RX2 25 "RollupStore$Rollup" "begin" "I").before _ s = true := hts _ (List.mem_cons_of_mem _ (List.mem_append_left _ (List.mem_append_left _ (List.mem_of_getElem? (i := 0) rfl))))
  refine lv_aload_n hx hb dX2_find_0 rfl (lv_at hl 0 rfl) ?_
  refine lv_aload_n hx hb dX2_find_1 rfl (lv_at hl 0 rfl) ?_
  refine lv_iload_n hx hb dX2_find_2 rfl (lv_at hl 1 rfl) ?_
  obtain ⟨g1, h⟩ := h
  refine xc_i (va_runV (As := [.int p1]) (rest := [.ref a0]) ⟨hx, hb, hml, hown, hts⟩ (mt_X2_placeFrom l G base h) (cwV 1 hts gX2_find_X2_placeFrom rfl rfl rfl (by decide +kernel) ⟨Nat.le_of_ble_eq_true rfl, Nat.le_of_ble_eq_true rfl⟩) (xp_V hbase hh hK hX hS (ci := 2) g1 (by decide) rfl) rfl rfl hl.1 rfl (lv_room (Nat.le_of_ble_eq_true rfl)) dX2_find_3 ⟨Nat.le_of_ble_eq_true rfl, Nat.le_of_ble_eq_true rfl⟩) hS (fun r2 m3 H locs h hh hS => ?_)
  obtain ⟨g4, h⟩ := h
  refine xc_q (va_runV (As := [.int r2]) (rest := []) ⟨hx, hb, hml, hown, hts⟩ (mt_X2_rowOrNull l G base h) (cwV 1 hts gX2_find_X2_rowOrNull rfl rfl rfl (by decide +kernel) ⟨Nat.le_of_ble_eq_true rfl, Nat.le_of_ble_eq_true rfl⟩) (xp_V hbase hh hK hX hS (ci := 2) g4 (by decide) rfl) rfl rfl hl.1 rfl (lv_room (Nat.le_of_ble_eq_true rfl)) dX2_find_6 ⟨Nat.le_of_ble_eq_true rfl, Nat.le_of_ble_eq_true rfl⟩) hS (fun r5 m6 H locs h hh hS => ?_)
  rcases r5 with _ | b7
  · refine W.eq (g2 := F0 m 9 ls [.null]) rfl ?_
    replace h := h.1 rfl
    refine lv_astore_nN (lv' := [(2, .null), (0, .ref a0), (1, .int p1)]) hx hb dX2_find_9 rfl hl (by decide) rfl (fun ls hl => ?_)
    refine lv_aload_nN hx hb dX2_find_10 rfl (lv_at hl 0 rfl) ?_
    refine lv_ifnullN (tgt := 26) hx hb dX2_find_11 (by decide) ?_
    refine lv_null hx hb dX2_find_26 ?_
    exact (xe_q (v := none) hx hb hr hlocks hbase hh hK hX hS h (Nat.le_of_ble_eq_true rfl) (Nat.le_of_ble_eq_true rfl) dX2_find_27)
  · refine W.eq (g2 := F0 m 9 ls [.ref b7]) rfl ?_
    replace h := h.2 b7 rfl
    refine lv_astore_n (lv' := [(2, .ref b7), (0, .ref a0), (1, .int p1)]) hx hb dX2_find_9 rfl hl (by decide) rfl (fun ls hl => ?_)
    refine lv_aload_n hx hb dX2_find_10 rfl (lv_at hl 0 rfl) ?_
    refine lv_ifnull hx hb dX2_find_11 ?_
    refine lv_aload_n hx hb dX2_find_14 rfl (lv_at hl 0 rfl) ?_
    obtain ⟨g8, h⟩ := h
    refine xr_getI (ci := 1) (C := RX1) (T := TX1) (N := 8) hx hb hL1 hown hK hh g8 (by decide) rfl 0 20 rfl rfl (by decide) (by decide) q2 (fun _ h9 => h9) dX2_find_15 ?_
    refine lv_iload_n hx hb dX2_find_18 rfl (lv_at hl 2 rfl) ?_
    refine lv_icmp_ne (tgt := 26) hx hb dX2_find_19 (by decide) (fun c9 => ?_) (fun c9 => ?_)
    · replace h := h.1 c9
      refine lv_null hx hb dX2_find_26 ?_
      exact (xe_q (v := none) hx hb hr hlocks hbase hh hK hX hS h (Nat.le_of_ble_eq_true rfl) (Nat.le_of_ble_eq_true rfl) dX2_find_27)
    · replace h := h.2 c9
      refine lv_aload_n hx hb dX2_find_22 rfl (lv_at hl 0 rfl) ?_
      refine lv_goto (tgt := 27) hx hb dX2_find_23 (by decide) ?_
      exact (xe_q (v := (some b7)) hx hb hr hlocks hbase hh hK hX hS h (Nat.le_of_ble_eq_true rfl) (Nat.le_of_ble_eq_true rfl) dX2_find_27)

set_option maxHeartbeats 4000000 in
set_option maxRecDepth 100000 in
theorem mt_X1_clear (l : Launch) (G : GG) (base : Nat) {a0 : Nat} {m0 : MM} {Q : MM → Prop} (h : wp_X1_clear a0 m0 Q) : Met l yX1_clear wsX1_clear ({ frames := 0, cells := 0, slots := 0, locals := 8 }) (va_Pc [.ref a0] (SP G base m0)) (va_Qv Q (HB G base) (xA base)) 0 0 (xA base) := by
  refine Met.ofW (cc := cX1_clear) (maxL := 1) (ret := none) (by decide) rfl ?_
  intro p e s m args below meth c s₁ B hml hv
  obtain ⟨rfl, hbase, hh, hK, hX⟩ := hv
  have C0 : BC p s m _ meth c G base RX1 cX1_clear 1 none wsX1_clear := ⟨B.exec, B.bytes, B.returns, hml, findClass_of_methodNamed B.named, atoms_spec (ws := wsX1_clear) B.pre, B.notSynchronized, hK, hbase, hX⟩
  obtain ⟨hx, hb, hr, -, hown, hts, hlocks, -, -, -⟩ := id C0
  have hS : va_S (xA base) s.heap s.heap [] := va_S.rf
  have hl := lv_entry ([.ref a0]) (n := 1) (Nat.le_of_ble_eq_true rfl)
  rw [lg_entry_eq]
  generalize (lg_sl ([.ref a0]) ++ List.replicate (1 - (lg_sl ([.ref a0])).length) Slot.unset).toArray = ls at hl ⊢
  have hl : lv_has ls 1 [(0, .ref a0)] := hl
  unfold wp_X1_clear at h
  have hL1 : ∀ w ∈ u_ws RX1 TX1 8, w.before _ s = true := fun w h9 => hts w (List.mem_cons_of_mem _ (List.mem_append_right _ (h9)))
  have q2 : (Cond.fieldLink RX1 7 "RollupStore$Rollup" "count" "I").before _ s = true := hts _ (List.mem_cons_of_mem _ (List.mem_append_left _ (List.mem_of_getElem? (i := 0) rfl)))
  have q3 : (Cond.fieldLink RX1 13 "RollupStore$Rollup" "sum" "J").before _ s = true := hts _ (List.mem_cons_of_mem _ (List.mem_append_left _ (List.mem_of_getElem? (i := 1) rfl)))
  have q4 : (Cond.fieldLink RX1 17 "RollupStore$Rollup" "increase" "J").before _ s = true := hts _ (List.mem_cons_of_mem _ (List.mem_append_left _ (List.mem_of_getElem? (i := 2) rfl)))
  refine lv_aload_n hx hb dX1_clear_0 rfl (lv_at hl 0 rfl) ?_
  refine lv_iconst (v := 0) hx hb dX1_clear_1 (by decide) ?_
  obtain ⟨g1, h⟩ := h
  refine xr_putI (ci := 1) (C := RX1) (T := TX1) (N := 8) hx hb hL1 hown hK hh g1 (by decide) rfl 1 21 rfl rfl (by decide) (by decide) q2 (fun _ h9 => h9) tyX1 tyX1_ok nmX1 rfl rfl rfl hS dX1_clear_2 (fun H locs hh hS => ?_)
  obtain ⟨m2, em2⟩ : ∃ z : MM, z = sI m0 21 a0 (0 : Int32) := ⟨_, rfl⟩
  rw [← em2] at hh
  replace h := h m2 em2
  refine lv_aload_n hx hb dX1_clear_5 rfl (lv_at hl 0 rfl) ?_
  refine lv_lconst (v := 0) hx hb dX1_clear_6 (by decide) ?_
  obtain ⟨g3, h⟩ := h
  refine xr_putJ (ci := 1) (C := RX1) (T := TX1) (N := 8) hx hb hL1 hown hK hh g3 (by decide) rfl 2 22 rfl rfl (by decide) (by decide) q3 (fun _ h9 => h9) tyX1 tyX1_ok nmX1 rfl rfl rfl hS dX1_clear_7 (fun H locs hh hS => ?_)
  obtain ⟨m4, em4⟩ : ∃ z : MM, z = sJ m2 22 a0 (0 : Int64) := ⟨_, rfl⟩
  rw [← em4] at hh
  replace h := h m4 em4
  refine lv_aload_n hx hb dX1_clear_10 rfl (lv_at hl 0 rfl) ?_
  refine lv_lconst (v := 0) hx hb dX1_clear_11 (by decide) ?_
  obtain ⟨g5, h⟩ := h
  refine xr_putJ (ci := 1) (C := RX1) (T := TX1) (N := 8) hx hb hL1 hown hK hh g5 (by decide) rfl 7 27 rfl rfl (by decide) (by decide) q4 (fun _ h9 => h9) tyX1 tyX1_ok nmX1 rfl rfl rfl hS dX1_clear_12 (fun H locs hh hS => ?_)
  obtain ⟨m6, em6⟩ : ∃ z : MM, z = sJ m4 27 a0 (0 : Int64) := ⟨_, rfl⟩
  rw [← em6] at hh
  replace h := h m6 em6
  exact (xe_v hx hb hr hlocks hbase hh hK hX hS h (Nat.le_of_ble_eq_true rfl) (Nat.le_of_ble_eq_true rfl) dX1_clear_15)

set_option maxHeartbeats 4000000 in
set_option maxRecDepth 100000 in
theorem mt_X1_join (l : Launch) (G : GG) (base : Nat) {a0 : Nat} {p1 : Int32} {p2 : Int32} {p3 : Int32} {m0 : MM} {Q : MM → Prop} (h : wp_X1_join a0 p1 p2 p3 m0 Q) : Met l yX1_join wsX1_join ({ frames := 0, cells := 0, slots := 0, locals := 8 }) (va_Pc [.ref a0, .int p1, .int p2, .int p3] (SP G base m0)) (va_Qv Q (HB G base) (xA base)) 0 0 (xA base) := by
  refine Met.ofW (cc := cX1_join) (maxL := 4) (ret := none) (by decide) rfl ?_
  intro p e s m args below meth c s₁ B hml hv
  obtain ⟨rfl, hbase, hh, hK, hX⟩ := hv
  have C0 : BC p s m _ meth c G base RX1 cX1_join 4 none wsX1_join := ⟨B.exec, B.bytes, B.returns, hml, findClass_of_methodNamed B.named, atoms_spec (ws := wsX1_join) B.pre, B.notSynchronized, hK, hbase, hX⟩
  obtain ⟨hx, hb, hr, -, hown, hts, hlocks, -, -, -⟩ := id C0
  have hS : va_S (xA base) s.heap s.heap [] := va_S.rf
  have hl := lv_entry ([.ref a0, .int p1, .int p2, .int p3]) (n := 4) (Nat.le_of_ble_eq_true rfl)
  rw [lg_entry_eq]
  generalize (lg_sl ([.ref a0, .int p1, .int p2, .int p3]) ++ List.replicate (4 - (lg_sl ([.ref a0, .int p1, .int p2, .int p3])).length) Slot.unset).toArray = ls at hl ⊢
  have hl : lv_has ls 4 [(0, .ref a0), (1, .int p1), (2, .int p2), (3, .int p3)] := hl
  unfold wp_X1_join at h
  have hL1 : ∀ w ∈ u_ws RX1 TX1 8, w.before _ s = true := fun w h9 => hts w (List.mem_cons_of_mem _ (List.mem_append_right _ (h9)))
  have q2 : (Cond.fieldLink RX1 7 "RollupStore$Rollup" "count" "I").before _ s = true := hts _ (List.mem_cons_of_mem _ (List.mem_append_left _ (List.mem_of_getElem? (i := 0) rfl)))
  have q3 : (Cond.fieldLink RX1 17 "RollupStore$Rollup" "increase" "J").before _ s = true := hts _ (List.mem_cons_of_mem _ (List.mem_append_left _ (List.mem_of_getElem? (i := 2) rfl)))
  have q4 : (Cond.fieldLink RX1 42 "RollupStore$Rollup" "last" "I").before _ s = true := hts _ (List.mem_cons_of_mem _ (List.mem_append_left _ (List.mem_of_getElem? (i := 3) rfl)))
  have q5 : (Cond.fieldLink RX1 39 "RollupStore$Rollup" "first" "I").before _ s = true := hts _ (List.mem_cons_of_mem _ (List.mem_append_left _ (List.mem_of_getElem? (i := 1) rfl)))
  refine lv_aload_n hx hb dX1_join_0 rfl (lv_at hl 0 rfl) ?_
  obtain ⟨g1, h⟩ := h
  refine xr_getI (ci := 1) (C := RX1) (T := TX1) (N := 8) hx hb hL1 hown hK hh g1 (by decide) rfl 1 21 rfl rfl (by decide) (by decide) q2 (fun _ h9 => h9) dX1_join_1 ?_
  refine lv_if_ne (tgt := 15) hx hb dX1_join_4 (by decide) (fun c2 => ?_) (fun c2 => ?_)
  · replace h := h.1 c2
    refine lv_aload_n hx hb dX1_join_15 rfl (lv_at hl 0 rfl) ?_
    refine lv_dup hx hb dX1_join_16 rfl ?_
    obtain ⟨g3, h⟩ := h
    refine xr_getJ (ci := 1) (C := RX1) (T := TX1) (N := 8) hx hb hL1 hown hK hh g3 (by decide) rfl 7 27 rfl rfl (by decide) (by decide) q3 (fun _ h9 => h9) dX1_join_17 ?_
    refine lv_iload_n hx hb dX1_join_20 rfl (lv_at hl 2 rfl) ?_
    refine lv_aload_n hx hb dX1_join_21 rfl (lv_at hl 0 rfl) ?_
    obtain ⟨g4, h⟩ := h
    refine xr_getI (ci := 1) (C := RX1) (T := TX1) (N := 8) hx hb hL1 hown hK hh g4 (by decide) rfl 6 26 rfl rfl (by decide) (by decide) q4 (fun _ h9 => h9) dX1_join_22 ?_
    refine lv_icmp_ge (tgt := 33) hx hb dX1_join_25 (by decide) (fun c5 => ?_) (fun c5 => ?_)
    · replace h := h.1 c5
      refine lv_iload_n hx hb dX1_join_33 rfl (lv_at hl 2 rfl) ?_
      refine lv_aload_n hx hb dX1_join_34 rfl (lv_at hl 0 rfl) ?_
      obtain ⟨g6, h⟩ := h
      refine xr_getI (ci := 1) (C := RX1) (T := TX1) (N := 8) hx hb hL1 hown hK hh g6 (by decide) rfl 6 26 rfl rfl (by decide) (by decide) q4 (fun _ h9 => h9) dX1_join_35 ?_
      refine lv_isub hx hb dX1_join_38 ?_
      refine lv_i2l hx hb dX1_join_39 rfl ?_
      refine lv_ladd hx hb dX1_join_40 ?_
      obtain ⟨g7, h⟩ := h
      refine xr_putJ (ci := 1) (C := RX1) (T := TX1) (N := 8) hx hb hL1 hown hK hh g7 (by decide) rfl 7 27 rfl rfl (by decide) (by decide) q3 (fun _ h9 => h9) tyX1 tyX1_ok nmX1 rfl rfl rfl hS dX1_join_41 (fun H locs hh hS => ?_)
      obtain ⟨m8, em8⟩ : ∃ z : MM, z = sJ m0 27 a0 ((mJ m0 27 a0) + (p2 - (mI m0 26 a0)).toInt64) := ⟨_, rfl⟩
      rw [← em8] at hh
      replace h := h m8 em8
      refine lv_aload_n hx hb dX1_join_44 rfl (lv_at hl 0 rfl) ?_
      refine lv_iload_n hx hb dX1_join_45 rfl (lv_at hl 3 rfl) ?_
      obtain ⟨g9, h⟩ := h
      refine xr_putI (ci := 1) (C := RX1) (T := TX1) (N := 8) hx hb hL1 hown hK hh g9 (by decide) rfl 6 26 rfl rfl (by decide) (by decide) q4 (fun _ h9 => h9) tyX1 tyX1_ok nmX1 rfl rfl rfl hS dX1_join_46 (fun H locs hh hS => ?_)
      obtain ⟨m10, em10⟩ : ∃ z : MM, z = sI m8 26 a0 p3 := ⟨_, rfl⟩
      rw [← em10] at hh
      replace h := h m10 em10
      refine lv_aload_n hx hb dX1_join_49 rfl (lv_at hl 0 rfl) ?_
      refine lv_dup hx hb dX1_join_50 rfl ?_
      obtain ⟨g11, h⟩ := h
      refine xr_getI (ci := 1) (C := RX1) (T := TX1) (N := 8) hx hb hL1 hown hK hh g11 (by decide) rfl 1 21 rfl rfl (by decide) (by decide) q2 (fun _ h9 => h9) dX1_join_51 ?_
      refine lv_iload_n hx hb dX1_join_54 rfl (lv_at hl 1 rfl) ?_
      refine lv_iadd hx hb dX1_join_55 ?_
      obtain ⟨g12, h⟩ := h
      refine xr_putI (ci := 1) (C := RX1) (T := TX1) (N := 8) hx hb hL1 hown hK hh g12 (by decide) rfl 1 21 rfl rfl (by decide) (by decide) q2 (fun _ h9 => h9) tyX1 tyX1_ok nmX1 rfl rfl rfl hS dX1_join_56 (fun H locs hh hS => ?_)
      obtain ⟨m13, em13⟩ : ∃ z : MM, z = sI m10 21 a0 ((mI m10 21 a0) + p1) := ⟨_, rfl⟩
      rw [← em13] at hh
      replace h := h m13 em13
      exact (xe_v hx hb hr hlocks hbase hh hK hX hS h (Nat.le_of_ble_eq_true rfl) (Nat.le_of_ble_eq_true rfl) dX1_join_59)
    · replace h := h.2 c5
      refine lv_iload_n hx hb dX1_join_28 rfl (lv_at hl 2 rfl) ?_
      refine lv_i2l hx hb dX1_join_29 rfl ?_
      refine lv_goto (tgt := 40) hx hb dX1_join_30 (by decide) ?_
      refine lv_ladd hx hb dX1_join_40 ?_
      obtain ⟨g14, h⟩ := h
      refine xr_putJ (ci := 1) (C := RX1) (T := TX1) (N := 8) hx hb hL1 hown hK hh g14 (by decide) rfl 7 27 rfl rfl (by decide) (by decide) q3 (fun _ h9 => h9) tyX1 tyX1_ok nmX1 rfl rfl rfl hS dX1_join_41 (fun H locs hh hS => ?_)
      obtain ⟨m15, em15⟩ : ∃ z : MM, z = sJ m0 27 a0 ((mJ m0 27 a0) + p2.toInt64) := ⟨_, rfl⟩
      rw [← em15] at hh
      replace h := h m15 em15
      refine lv_aload_n hx hb dX1_join_44 rfl (lv_at hl 0 rfl) ?_
      refine lv_iload_n hx hb dX1_join_45 rfl (lv_at hl 3 rfl) ?_
      obtain ⟨g16, h⟩ := h
      refine xr_putI (ci := 1) (C := RX1) (T := TX1) (N := 8) hx hb hL1 hown hK hh g16 (by decide) rfl 6 26 rfl rfl (by decide) (by decide) q4 (fun _ h9 => h9) tyX1 tyX1_ok nmX1 rfl rfl rfl hS dX1_join_46 (fun H locs hh hS => ?_)
      obtain ⟨m17, em17⟩ : ∃ z : MM, z = sI m15 26 a0 p3 := ⟨_, rfl⟩
      rw [← em17] at hh
      replace h := h m17 em17
      refine lv_aload_n hx hb dX1_join_49 rfl (lv_at hl 0 rfl) ?_
      refine lv_dup hx hb dX1_join_50 rfl ?_
      obtain ⟨g18, h⟩ := h
      refine xr_getI (ci := 1) (C := RX1) (T := TX1) (N := 8) hx hb hL1 hown hK hh g18 (by decide) rfl 1 21 rfl rfl (by decide) (by decide) q2 (fun _ h9 => h9) dX1_join_51 ?_
      refine lv_iload_n hx hb dX1_join_54 rfl (lv_at hl 1 rfl) ?_
      refine lv_iadd hx hb dX1_join_55 ?_
      obtain ⟨g19, h⟩ := h
      refine xr_putI (ci := 1) (C := RX1) (T := TX1) (N := 8) hx hb hL1 hown hK hh g19 (by decide) rfl 1 21 rfl rfl (by decide) (by decide) q2 (fun _ h9 => h9) tyX1 tyX1_ok nmX1 rfl rfl rfl hS dX1_join_56 (fun H locs hh hS => ?_)
      obtain ⟨m20, em20⟩ : ∃ z : MM, z = sI m17 21 a0 ((mI m17 21 a0) + p1) := ⟨_, rfl⟩
      rw [← em20] at hh
      replace h := h m20 em20
      exact (xe_v hx hb hr hlocks hbase hh hK hX hS h (Nat.le_of_ble_eq_true rfl) (Nat.le_of_ble_eq_true rfl) dX1_join_59)
  · replace h := h.2 c2
    refine lv_aload_n hx hb dX1_join_7 rfl (lv_at hl 0 rfl) ?_
    refine lv_iload_n hx hb dX1_join_8 rfl (lv_at hl 2 rfl) ?_
    obtain ⟨g21, h⟩ := h
    refine xr_putI (ci := 1) (C := RX1) (T := TX1) (N := 8) hx hb hL1 hown hK hh g21 (by decide) rfl 5 25 rfl rfl (by decide) (by decide) q5 (fun _ h9 => h9) tyX1 tyX1_ok nmX1 rfl rfl rfl hS dX1_join_9 (fun H locs hh hS => ?_)
    obtain ⟨m22, em22⟩ : ∃ z : MM, z = sI m0 25 a0 p2 := ⟨_, rfl⟩
    rw [← em22] at hh
    replace h := h m22 em22
    refine lv_goto (tgt := 44) hx hb dX1_join_12 (by decide) ?_
    refine lv_aload_n hx hb dX1_join_44 rfl (lv_at hl 0 rfl) ?_
    refine lv_iload_n hx hb dX1_join_45 rfl (lv_at hl 3 rfl) ?_
    obtain ⟨g23, h⟩ := h
    refine xr_putI (ci := 1) (C := RX1) (T := TX1) (N := 8) hx hb hL1 hown hK hh g23 (by decide) rfl 6 26 rfl rfl (by decide) (by decide) q4 (fun _ h9 => h9) tyX1 tyX1_ok nmX1 rfl rfl rfl hS dX1_join_46 (fun H locs hh hS => ?_)
    obtain ⟨m24, em24⟩ : ∃ z : MM, z = sI m22 26 a0 p3 := ⟨_, rfl⟩
    rw [← em24] at hh
    replace h := h m24 em24
    refine lv_aload_n hx hb dX1_join_49 rfl (lv_at hl 0 rfl) ?_
    refine lv_dup hx hb dX1_join_50 rfl ?_
    obtain ⟨g25, h⟩ := h
    refine xr_getI (ci := 1) (C := RX1) (T := TX1) (N := 8) hx hb hL1 hown hK hh g25 (by decide) rfl 1 21 rfl rfl (by decide) (by decide) q2 (fun _ h9 => h9) dX1_join_51 ?_
    refine lv_iload_n hx hb dX1_join_54 rfl (lv_at hl 1 rfl) ?_
    refine lv_iadd hx hb dX1_join_55 ?_
    obtain ⟨g26, h⟩ := h
    refine xr_putI (ci := 1) (C := RX1) (T := TX1) (N := 8) hx hb hL1 hown hK hh g26 (by decide) rfl 1 21 rfl rfl (by decide) (by decide) q2 (fun _ h9 => h9) tyX1 tyX1_ok nmX1 rfl rfl rfl hS dX1_join_56 (fun H locs hh hS => ?_)
    obtain ⟨m27, em27⟩ : ∃ z : MM, z = sI m24 21 a0 ((mI m24 21 a0) + p1) := ⟨_, rfl⟩
    rw [← em27] at hh
    replace h := h m27 em27
    exact (xe_v hx hb hr hlocks hbase hh hK hX hS h (Nat.le_of_ble_eq_true rfl) (Nat.le_of_ble_eq_true rfl) dX1_join_59)

set_option maxHeartbeats 4000000 in
set_option maxRecDepth 100000 in
theorem bk_X1_addRollup_78 {p : Program} {l : Launch} {e : Env} {s : State} {m : MethodId} {args : Array Value} {below : List Frame} {meth : Method} {c : Code} {G : GG} {base : Nat} (C0 : BC p s m args meth c G base RX1 cX1_addRollup 3 none wsX1_addRollup) {Q : MM → Prop} : ∀ (l0 : Nat) (l1 : Nat) (s0 : Int32) (s1 : Nat) (m0 : MM) (H : Heap) (locs : List Loc) (ls : Array Slot), wp_X1_addRollup_78 Q l0 l1 s0 s1 m0 → hp G (xA base) m0 H → va_S (xA base) s.heap H locs → lv_has ls 3 [(0, .ref l0), (1, .ref l1)] → W p l e ({ frames := 1, cells := 0, slots := 0, locals := 70 } : Room) s m args below meth c H locs 0 0 (MQ below (va_Qv Q (HB G base) (xA base)) args s 0 0 (xA base)) (F0 m 78 ls [.int s0, .ref s1]) := by
  obtain ⟨hx, hb, hr, hml, hown, hts, hlocks, hK, hbase, hX⟩ := id C0
  intro l0 l1 s0 s1 m0 H locs ls h hh hS hl
  unfold wp_X1_addRollup_78 at h
  have hL1 : ∀ w ∈ u_ws RX1 TX1 8, w.before _ s = true := fun w h9 => hts w (List.mem_cons_of_mem _ (List.mem_append_right _ (h9)))
  have q2 : (Cond.fieldLink RX1 33 "RollupStore$Rollup" "greatest" "I").before _ s = true := hts _ (List.mem_cons_of_mem _ (List.mem_append_left _ (List.mem_of_getElem? (i := 8) rfl)))
  have q3 : (Cond.fieldLink RX1 13 "RollupStore$Rollup" "sum" "J").before _ s = true := hts _ (List.mem_cons_of_mem _ (List.mem_append_left _ (List.mem_of_getElem? (i := 12) rfl)))
  have q4 : (Cond.fieldLink RX1 17 "RollupStore$Rollup" "increase" "J").before _ s = true := hts _ (List.mem_cons_of_mem _ (List.mem_append_left _ (List.mem_of_getElem? (i := 13) rfl)))
  obtain ⟨g17, h⟩ := h
  refine xr_putI (ci := 1) (C := RX1) (T := TX1) (N := 8) hx hb hL1 hown hK hh g17 (by decide) rfl 4 24 rfl rfl (by decide) (by decide) q2 (fun _ h9 => h9) tyX1 tyX1_ok nmX1 rfl rfl rfl hS dX1_addRollup_78 (fun H locs hh hS => ?_)
  obtain ⟨m18, em18⟩ : ∃ z : MM, z = sI m0 24 s1 s0 := ⟨_, rfl⟩
  rw [← em18] at hh
  replace h := h m18 em18
  refine lv_aload_n hx hb dX1_addRollup_81 rfl (lv_at hl 0 rfl) ?_
  refine lv_dup hx hb dX1_addRollup_82 rfl ?_
  obtain ⟨g19, h⟩ := h
  refine xr_getJ (ci := 1) (C := RX1) (T := TX1) (N := 8) hx hb hL1 hown hK hh g19 (by decide) rfl 2 22 rfl rfl (by decide) (by decide) q3 (fun _ h9 => h9) dX1_addRollup_83 ?_
  refine lv_aload_n hx hb dX1_addRollup_86 rfl (lv_at hl 1 rfl) ?_
  obtain ⟨g20, h⟩ := h
  refine xr_getJ (ci := 1) (C := RX1) (T := TX1) (N := 8) hx hb hL1 hown hK hh g20 (by decide) rfl 2 22 rfl rfl (by decide) (by decide) q3 (fun _ h9 => h9) dX1_addRollup_87 ?_
  refine lv_ladd hx hb dX1_addRollup_90 ?_
  obtain ⟨g21, h⟩ := h
  refine xr_putJ (ci := 1) (C := RX1) (T := TX1) (N := 8) hx hb hL1 hown hK hh g21 (by decide) rfl 2 22 rfl rfl (by decide) (by decide) q3 (fun _ h9 => h9) tyX1 tyX1_ok nmX1 rfl rfl rfl hS dX1_addRollup_91 (fun H locs hh hS => ?_)
  obtain ⟨m22, em22⟩ : ∃ z : MM, z = sJ m18 22 l0 ((mJ m18 22 l0) + (mJ m18 22 l1)) := ⟨_, rfl⟩
  rw [← em22] at hh
  replace h := h m22 em22
  refine lv_aload_n hx hb dX1_addRollup_94 rfl (lv_at hl 0 rfl) ?_
  refine lv_dup hx hb dX1_addRollup_95 rfl ?_
  obtain ⟨g23, h⟩ := h
  refine xr_getJ (ci := 1) (C := RX1) (T := TX1) (N := 8) hx hb hL1 hown hK hh g23 (by decide) rfl 7 27 rfl rfl (by decide) (by decide) q4 (fun _ h9 => h9) dX1_addRollup_96 ?_
  refine lv_aload_n hx hb dX1_addRollup_99 rfl (lv_at hl 1 rfl) ?_
  obtain ⟨g24, h⟩ := h
  refine xr_getJ (ci := 1) (C := RX1) (T := TX1) (N := 8) hx hb hL1 hown hK hh g24 (by decide) rfl 7 27 rfl rfl (by decide) (by decide) q4 (fun _ h9 => h9) dX1_addRollup_100 ?_
  refine lv_ladd hx hb dX1_addRollup_103 ?_
  obtain ⟨g25, h⟩ := h
  refine xr_putJ (ci := 1) (C := RX1) (T := TX1) (N := 8) hx hb hL1 hown hK hh g25 (by decide) rfl 7 27 rfl rfl (by decide) (by decide) q4 (fun _ h9 => h9) tyX1 tyX1_ok nmX1 rfl rfl rfl hS dX1_addRollup_104 (fun H locs hh hS => ?_)
  obtain ⟨m26, em26⟩ : ∃ z : MM, z = sJ m22 27 l0 ((mJ m22 27 l0) + (mJ m22 27 l1)) := ⟨_, rfl⟩
  rw [← em26] at hh
  replace h := h m26 em26
  exact (xe_v hx hb hr hlocks hbase hh hK hX hS h (Nat.le_of_ble_eq_true rfl) (Nat.le_of_ble_eq_true rfl) dX1_addRollup_107)

set_option maxHeartbeats 4000000 in
set_option maxRecDepth 100000 in
theorem bk_X1_addRollup_52 {p : Program} {l : Launch} {e : Env} {s : State} {m : MethodId} {args : Array Value} {below : List Frame} {meth : Method} {c : Code} {G : GG} {base : Nat} (C0 : BC p s m args meth c G base RX1 cX1_addRollup 3 none wsX1_addRollup) {Q : MM → Prop} : ∀ (l0 : Nat) (l1 : Nat) (l2 : Int32) (s0 : Int32) (s1 : Nat) (m0 : MM) (H : Heap) (locs : List Loc) (ls : Array Slot), wp_X1_addRollup_52 Q l0 l1 l2 s0 s1 m0 → hp G (xA base) m0 H → va_S (xA base) s.heap H locs → lv_has ls 3 [(0, .ref l0), (1, .ref l1), (2, .int l2)] → W p l e ({ frames := 1, cells := 0, slots := 0, locals := 70 } : Room) s m args below meth c H locs 0 0 (MQ below (va_Qv Q (HB G base) (xA base)) args s 0 0 (xA base)) (F0 m 52 ls [.int s0, .ref s1]) := by
  obtain ⟨hx, hb, hr, hml, hown, hts, hlocks, hK, hbase, hX⟩ := id C0
  intro l0 l1 l2 s0 s1 m0 H locs ls h hh hS hl
  unfold wp_X1_addRollup_52 at h
  have hL1 : ∀ w ∈ u_ws RX1 TX1 8, w.before _ s = true := fun w h9 => hts w (List.mem_cons_of_mem _ (List.mem_append_right _ (h9)))
  have q2 : (Cond.fieldLink RX1 24 "RollupStore$Rollup" "least" "I").before _ s = true := hts _ (List.mem_cons_of_mem _ (List.mem_append_left _ (List.mem_of_getElem? (i := 3) rfl)))
  have q3 : (Cond.fieldLink RX1 33 "RollupStore$Rollup" "greatest" "I").before _ s = true := hts _ (List.mem_cons_of_mem _ (List.mem_append_left _ (List.mem_of_getElem? (i := 8) rfl)))
  have q4 : (Cond.methodLink RX1 36 Lib.Math.max.name).before _ s = true := hts _ (List.mem_cons_of_mem _ (List.mem_append_left _ (List.mem_of_getElem? (i := 9) rfl)))
  have q5 : (Cond.static Lib.Math.max.name).before _ s = true := hts _ (List.mem_cons_of_mem _ (List.mem_append_left _ (List.mem_of_getElem? (i := 10) rfl)))
  have q6 : (Cond.initialized "java/lang/Math").before _ s = true := hts _ (List.mem_cons_of_mem _ (List.mem_append_left _ (List.mem_of_getElem? (i := 6) rfl)))
  have q7 : (Cond.code Lib.Math.max.name Lib.Math.max.code 2 (some .int)).before _ s = true := hts _ (List.mem_cons_of_mem _ (List.mem_append_left _ (List.mem_of_getElem? (i := 11) rfl)))
  obtain ⟨g12, h⟩ := h
  refine xr_putI (ci := 1) (C := RX1) (T := TX1) (N := 8) hx hb hL1 hown hK hh g12 (by decide) rfl 3 23 rfl rfl (by decide) (by decide) q2 (fun _ h9 => h9) tyX1 tyX1_ok nmX1 rfl rfl rfl hS dX1_addRollup_52 (fun H locs hh hS => ?_)
  obtain ⟨m13, em13⟩ : ∃ z : MM, z = sI m0 23 s1 s0 := ⟨_, rfl⟩
  rw [← em13] at hh
  replace h := h m13 em13
  refine lv_aload_n hx hb dX1_addRollup_55 rfl (lv_at hl 0 rfl) ?_
  refine lv_iload_n hx hb dX1_addRollup_56 rfl (lv_at hl 2 rfl) ?_
  refine lv_if_eq (tgt := 67) hx hb dX1_addRollup_57 (by decide) (fun c14 => ?_) (fun c14 => ?_)
  · replace h := h.1 c14
    refine lv_aload_n hx hb dX1_addRollup_67 rfl (lv_at hl 0 rfl) ?_
    obtain ⟨g15, h⟩ := h
    refine xr_getI (ci := 1) (C := RX1) (T := TX1) (N := 8) hx hb hL1 hown hK hh g15 (by decide) rfl 4 24 rfl rfl (by decide) (by decide) q3 (fun _ h9 => h9) dX1_addRollup_68 ?_
    refine lv_aload_n hx hb dX1_addRollup_71 rfl (lv_at hl 1 rfl) ?_
    obtain ⟨g16, h⟩ := h
    refine xr_getI (ci := 1) (C := RX1) (T := TX1) (N := 8) hx hb hL1 hown hK hh g16 (by decide) rfl 4 24 rfl rfl (by decide) (by decide) q3 (fun _ h9 => h9) dX1_addRollup_72 ?_
    refine va_mmax hx hb (hml.trans hl.1.symm) hown q4 q5 q6 q7 (Nat.le_of_ble_eq_true rfl) (Nat.le_of_ble_eq_true rfl) (Nat.le_of_ble_eq_true rfl) (Nat.le_of_ble_eq_true rfl) dX1_addRollup_75 ?_
    exact bk_X1_addRollup_78 C0  _ _ _ _ _ _ _ _ h hh hS (lv_sub hl [0, 1] rfl)
  · replace h := h.2 c14
    refine lv_aload_n hx hb dX1_addRollup_60 rfl (lv_at hl 1 rfl) ?_
    obtain ⟨g27, h⟩ := h
    refine xr_getI (ci := 1) (C := RX1) (T := TX1) (N := 8) hx hb hL1 hown hK hh g27 (by decide) rfl 4 24 rfl rfl (by decide) (by decide) q3 (fun _ h9 => h9) dX1_addRollup_61 ?_
    refine lv_goto (tgt := 78) hx hb dX1_addRollup_64 (by decide) ?_
    exact bk_X1_addRollup_78 C0  _ _ _ _ _ _ _ _ h hh hS (lv_sub hl [0, 1] rfl)

set_option maxHeartbeats 4000000 in
set_option maxRecDepth 100000 in
theorem bk_X1_addRollup_12 {p : Program} {l : Launch} {e : Env} {s : State} {m : MethodId} {args : Array Value} {below : List Frame} {meth : Method} {c : Code} {G : GG} {base : Nat} (C0 : BC p s m args meth c G base RX1 cX1_addRollup 3 none wsX1_addRollup) {Q : MM → Prop} : ∀ (l0 : Nat) (l1 : Nat) (s0 : Int32) (m0 : MM) (H : Heap) (locs : List Loc) (ls : Array Slot), wp_X1_addRollup_12 Q l0 l1 s0 m0 → hp G (xA base) m0 H → va_S (xA base) s.heap H locs → lv_has ls 3 [(0, .ref l0), (1, .ref l1)] → W p l e ({ frames := 1, cells := 0, slots := 0, locals := 70 } : Room) s m args below meth c H locs 0 0 (MQ below (va_Qv Q (HB G base) (xA base)) args s 0 0 (xA base)) (F0 m 12 ls [.int s0]) := by
  obtain ⟨hx, hb, hr, hml, hown, hts, hlocks, hK, hbase, hX⟩ := id C0
  intro l0 l1 s0 m0 H locs ls h hh hS hl
  unfold wp_X1_addRollup_12 at h
  have hL1 : ∀ w ∈ u_ws RX1 TX1 8, w.before _ s = true := fun w h9 => hts w (List.mem_cons_of_mem _ (List.mem_append_right _ (h9)))
  have q2 : (Cond.fieldLink RX1 7 "RollupStore$Rollup" "count" "I").before _ s = true := hts _ (List.mem_cons_of_mem _ (List.mem_append_left _ (List.mem_of_getElem? (i := 0) rfl)))
  have q3 : (Cond.fieldLink RX1 39 "RollupStore$Rollup" "first" "I").before _ s = true := hts _ (List.mem_cons_of_mem _ (List.mem_append_left _ (List.mem_of_getElem? (i := 1) rfl)))
  have q4 : (Cond.fieldLink RX1 42 "RollupStore$Rollup" "last" "I").before _ s = true := hts _ (List.mem_cons_of_mem _ (List.mem_append_left _ (List.mem_of_getElem? (i := 2) rfl)))
  have q5 : (Cond.fieldLink RX1 24 "RollupStore$Rollup" "least" "I").before _ s = true := hts _ (List.mem_cons_of_mem _ (List.mem_append_left _ (List.mem_of_getElem? (i := 3) rfl)))
  have q6 : (Cond.methodLink RX1 27 Lib.Math.min.name).before _ s = true := hts _ (List.mem_cons_of_mem _ (List.mem_append_left _ (List.mem_of_getElem? (i := 4) rfl)))
  have q7 : (Cond.static Lib.Math.min.name).before _ s = true := hts _ (List.mem_cons_of_mem _ (List.mem_append_left _ (List.mem_of_getElem? (i := 5) rfl)))
  have q8 : (Cond.initialized "java/lang/Math").before _ s = true := hts _ (List.mem_cons_of_mem _ (List.mem_append_left _ (List.mem_of_getElem? (i := 6) rfl)))
  have q9 : (Cond.code Lib.Math.min.name Lib.Math.min.code 2 (some .int)).before _ s = true := hts _ (List.mem_cons_of_mem _ (List.mem_append_left _ (List.mem_of_getElem? (i := 7) rfl)))
  refine lv_istore_n (lv' := [(2, .int s0), (0, .ref l0), (1, .ref l1)]) hx hb dX1_addRollup_12 rfl hl (by decide) rfl (fun ls hl => ?_)
  refine lv_aload_n hx hb dX1_addRollup_13 rfl (lv_at hl 1 rfl) ?_
  refine lv_aload_n hx hb dX1_addRollup_14 rfl (lv_at hl 2 rfl) ?_
  obtain ⟨g3, h⟩ := h
  refine xr_getI (ci := 1) (C := RX1) (T := TX1) (N := 8) hx hb hL1 hown hK hh g3 (by decide) rfl 1 21 rfl rfl (by decide) (by decide) q2 (fun _ h9 => h9) dX1_addRollup_15 ?_
  refine lv_aload_n hx hb dX1_addRollup_18 rfl (lv_at hl 2 rfl) ?_
  obtain ⟨g4, h⟩ := h
  refine xr_getI (ci := 1) (C := RX1) (T := TX1) (N := 8) hx hb hL1 hown hK hh g4 (by decide) rfl 5 25 rfl rfl (by decide) (by decide) q3 (fun _ h9 => h9) dX1_addRollup_19 ?_
  refine lv_aload_n hx hb dX1_addRollup_22 rfl (lv_at hl 2 rfl) ?_
  obtain ⟨g5, h⟩ := h
  refine xr_getI (ci := 1) (C := RX1) (T := TX1) (N := 8) hx hb hL1 hown hK hh g5 (by decide) rfl 6 26 rfl rfl (by decide) (by decide) q4 (fun _ h9 => h9) dX1_addRollup_23 ?_
  obtain ⟨g6, h⟩ := h
  refine xc_v (va_runV (As := [.int (mI m0 21 l1), .int (mI m0 25 l1), .int (mI m0 26 l1)]) (rest := []) ⟨hx, hb, hml, hown, hts⟩ (mt_X1_join l G base h) (cwV 3 hts gX1_addRollup_X1_join rfl rfl rfl (by decide +kernel) ⟨Nat.le_of_ble_eq_true rfl, Nat.le_of_ble_eq_true rfl⟩) (xp_V hbase hh hK hX hS (ci := 1) g6 (by decide) rfl) rfl rfl hl.1 rfl (lv_room (Nat.le_of_ble_eq_true rfl)) dX1_addRollup_26 ⟨Nat.le_of_ble_eq_true rfl, Nat.le_of_ble_eq_true rfl⟩) hS (fun m8 H locs h hh hS => ?_)
  refine lv_aload_n hx hb dX1_addRollup_29 rfl (lv_at hl 1 rfl) ?_
  refine lv_iload_n hx hb dX1_addRollup_30 rfl (lv_at hl 0 rfl) ?_
  refine lv_if_eq (tgt := 41) hx hb dX1_addRollup_31 (by decide) (fun c9 => ?_) (fun c9 => ?_)
  · replace h := h.1 c9
    refine lv_aload_n hx hb dX1_addRollup_41 rfl (lv_at hl 1 rfl) ?_
    obtain ⟨g10, h⟩ := h
    refine xr_getI (ci := 1) (C := RX1) (T := TX1) (N := 8) hx hb hL1 hown hK hh g10 (by decide) rfl 3 23 rfl rfl (by decide) (by decide) q5 (fun _ h9 => h9) dX1_addRollup_42 ?_
    refine lv_aload_n hx hb dX1_addRollup_45 rfl (lv_at hl 2 rfl) ?_
    obtain ⟨g11, h⟩ := h
    refine xr_getI (ci := 1) (C := RX1) (T := TX1) (N := 8) hx hb hL1 hown hK hh g11 (by decide) rfl 3 23 rfl rfl (by decide) (by decide) q5 (fun _ h9 => h9) dX1_addRollup_46 ?_
    refine va_mmin hx hb (hml.trans hl.1.symm) hown q6 q7 q8 q9 (Nat.le_of_ble_eq_true rfl) (Nat.le_of_ble_eq_true rfl) (Nat.le_of_ble_eq_true rfl) (Nat.le_of_ble_eq_true rfl) dX1_addRollup_49 ?_
    exact bk_X1_addRollup_52 C0  _ _ _ _ _ _ _ _ _ h hh hS (lv_sub hl [1, 2, 0] rfl)
  · replace h := h.2 c9
    refine lv_aload_n hx hb dX1_addRollup_34 rfl (lv_at hl 2 rfl) ?_
    obtain ⟨g28, h⟩ := h
    refine xr_getI (ci := 1) (C := RX1) (T := TX1) (N := 8) hx hb hL1 hown hK hh g28 (by decide) rfl 3 23 rfl rfl (by decide) (by decide) q5 (fun _ h9 => h9) dX1_addRollup_35 ?_
    refine lv_goto (tgt := 52) hx hb dX1_addRollup_38 (by decide) ?_
    exact bk_X1_addRollup_52 C0  _ _ _ _ _ _ _ _ _ h hh hS (lv_sub hl [1, 2, 0] rfl)

set_option maxHeartbeats 4000000 in
set_option maxRecDepth 100000 in
theorem mt_X1_addRollup (l : Launch) (G : GG) (base : Nat) {a0 : Nat} {p1 : Nat} {m0 : MM} {Q : MM → Prop} (h : wp_X1_addRollup a0 p1 m0 Q) : Met l yX1_addRollup wsX1_addRollup ({ frames := 1, cells := 0, slots := 0, locals := 70 }) (va_Pc [.ref a0, .ref p1] (SP G base m0)) (va_Qv Q (HB G base) (xA base)) 0 0 (xA base) := by
  refine Met.ofW (cc := cX1_addRollup) (maxL := 3) (ret := none) (by decide) rfl ?_
  intro p e s m args below meth c s₁ B hml hv
  obtain ⟨rfl, hbase, hh, hK, hX⟩ := hv
  have C0 : BC p s m _ meth c G base RX1 cX1_addRollup 3 none wsX1_addRollup := ⟨B.exec, B.bytes, B.returns, hml, findClass_of_methodNamed B.named, atoms_spec (ws := wsX1_addRollup) B.pre, B.notSynchronized, hK, hbase, hX⟩
  obtain ⟨hx, hb, hr, -, hown, hts, hlocks, -, -, -⟩ := id C0
  have hS : va_S (xA base) s.heap s.heap [] := va_S.rf
  have hl := lv_entry ([.ref a0, .ref p1]) (n := 3) (Nat.le_of_ble_eq_true rfl)
  rw [lg_entry_eq]
  generalize (lg_sl ([.ref a0, .ref p1]) ++ List.replicate (3 - (lg_sl ([.ref a0, .ref p1])).length) Slot.unset).toArray = ls at hl ⊢
  have hl : lv_has ls 3 [(0, .ref a0), (1, .ref p1)] := hl
  unfold wp_X1_addRollup at h
  have hL1 : ∀ w ∈ u_ws RX1 TX1 8, w.before _ s = true := fun w h9 => hts w (List.mem_cons_of_mem _ (List.mem_append_right _ (h9)))
  have q2 : (Cond.fieldLink RX1 7 "RollupStore$Rollup" "count" "I").before _ s = true := hts _ (List.mem_cons_of_mem _ (List.mem_append_left _ (List.mem_of_getElem? (i := 0) rfl)))
  refine lv_aload_n hx hb dX1_addRollup_0 rfl (lv_at hl 0 rfl) ?_
  obtain ⟨g1, h⟩ := h
  refine xr_getI (ci := 1) (C := RX1) (T := TX1) (N := 8) hx hb hL1 hown hK hh g1 (by decide) rfl 1 21 rfl rfl (by decide) (by decide) q2 (fun _ h9 => h9) dX1_addRollup_1 ?_
  refine lv_if_ne (tgt := 11) hx hb dX1_addRollup_4 (by decide) (fun c2 => ?_) (fun c2 => ?_)
  · replace h := h.1 c2
    refine lv_iconst (v := 0) hx hb dX1_addRollup_11 (by decide) ?_
    exact bk_X1_addRollup_12 C0  _ _ _ _ _ _ _ h hh hS (lv_sub hl [0, 1] rfl)
  · replace h := h.2 c2
    refine lv_iconst (v := 1) hx hb dX1_addRollup_7 (by decide) ?_
    refine lv_goto (tgt := 12) hx hb dX1_addRollup_8 (by decide) ?_
    exact bk_X1_addRollup_12 C0  _ _ _ _ _ _ _ h hh hS (lv_sub hl [0, 1] rfl)

set_option maxHeartbeats 4000000 in
set_option maxRecDepth 100000 in
theorem bk_X2_addTo_7 {p : Program} {l : Launch} {e : Env} {s : State} {m : MethodId} {args : Array Value} {below : List Frame} {meth : Method} {c : Code} {G : GG} {base : Nat} (C0 : BC p s m args meth c G base RX2 cX2_addTo 6 none wsX2_addTo) {Q : MM → Prop} : ∀ (n : Nat) (l0 : Nat) (l1 : Nat) (l3 : Int32) (l4 : Int32) (m0 : MM) (H : Heap) (locs : List Loc) (ls : Array Slot), wp_X2_addTo_7 Q n l0 l1 l3 l4 m0 → hp G (xA base) m0 H → va_S (xA base) s.heap H locs → lv_has ls 6 [(0, .ref l0), (1, .ref l1), (3, .int l3), (4, .int l4)] → W p l e ({ frames := 2, cells := 0, slots := 0, locals := 92 } : Room) s m args below meth c H locs 0 0 (MQ below (va_Qv Q (HB G base) (xA base)) args s 0 0 (xA base)) (F0 m 7 ls []) := by
  obtain ⟨hx, hb, hr, hml, hown, hts, hlocks, hK, hbase, hX⟩ := id C0
  intro n
  induction n with
  | zero =>
    intro l0 l1 l3 l4 m0 H locs ls h
    unfold wp_X2_addTo_7 at h
    exact h.elim
  | succ n ih =>
    intro l0 l1 l3 l4 m0 H locs ls h hh hS hl
    unfold wp_X2_addTo_7 at h
    have hL2 : ∀ w ∈ u_ws RX2 TX2 3, w.before _ s = true := fun w h9 => hts w (List.mem_cons_of_mem _ (List.mem_append_left _ (List.mem_append_right _ (h9))))
    have q2 : (Cond.fieldLink RX2 28 "RollupStore$Rollups" "kept" "I").before _ s = true := hts _ (List.mem_cons_of_mem _ (List.mem_append_left _ (List.mem_append_left _ (List.mem_append_left _ (List.mem_of_getElem? (i := 0) rfl)))))
    have hL1 : ∀ w ∈ u_ws RX1 TX1 8, w.before _ s = true := fun w h9 => hts w (List.mem_cons_of_mem _ (List.mem_append_right _ (h9)))
    have q4 : (Cond.fieldLink RX2 25 "RollupStore$Rollup" "begin" "I").before _ s = true := hts _ (List.mem_cons_of_mem _ (List.mem_append_left _ (List.mem_append_left _ (List.mem_append_left _ (List.mem_of_getElem? (i := 1) rfl)))))
    refine lv_iload hx hb dX2_addTo_7 (lv_at hl 3 rfl) ?_
    refine lv_aload_n hx hb dX2_addTo_9 rfl (lv_at hl 0 rfl) ?_
    obtain ⟨g4, h⟩ := h
    refine xr_getI (ci := 2) (C := RX2) (T := TX2) (N := 3) hx hb hL2 hown hK hh g4 (by decide) rfl 2 42 rfl rfl (by decide) (by decide) q2 (fun _ h9 => h9) dX2_addTo_10 ?_
    refine lv_icmp_ge (tgt := 51) hx hb dX2_addTo_13 (by decide) (fun c5 => ?_) (fun c5 => ?_)
    · replace h := h.1 c5
      exact (xe_v hx hb hr hlocks hbase hh hK hX hS h (Nat.le_of_ble_eq_true rfl) (Nat.le_of_ble_eq_true rfl) dX2_addTo_51)
    · replace h := h.2 c5
      refine lv_aload_n hx hb dX2_addTo_16 rfl (lv_at hl 0 rfl) ?_
      refine lv_iload hx hb dX2_addTo_17 (lv_at hl 3 rfl) ?_
      obtain ⟨g6, h⟩ := h
      refine xc_q (va_runV (As := [.int l4]) (rest := []) ⟨hx, hb, hml, hown, hts⟩ (mt_X2_rowOrNull l G base h) (cwV 1 hts gX2_addTo_X2_rowOrNull rfl rfl rfl (by decide +kernel) ⟨Nat.le_of_ble_eq_true rfl, Nat.le_of_ble_eq_true rfl⟩) (xp_V hbase hh hK hX hS (ci := 2) g6 (by decide) rfl) rfl rfl hl.1 rfl (lv_room (Nat.le_of_ble_eq_true rfl)) dX2_addTo_19 ⟨Nat.le_of_ble_eq_true rfl, Nat.le_of_ble_eq_true rfl⟩) hS (fun r7 m8 H locs h hh hS => ?_)
      rcases r7 with _ | b9
      · refine W.eq (g2 := F0 m 22 ls [.null]) rfl ?_
        replace h := h.1 rfl
        refine lv_astoreN (lv' := [(5, .null), (0, .ref l0), (1, .ref l1), (3, .int l3), (4, .int l4)]) hx hb dX2_addTo_22 hl (by decide) rfl (fun ls hl => ?_)
        refine lv_aloadN hx hb dX2_addTo_24 (lv_at hl 0 rfl) ?_
        refine lv_ifnullN (tgt := 38) hx hb dX2_addTo_26 (by decide) ?_
        exact (xe_v hx hb hr hlocks hbase hh hK hX hS h (Nat.le_of_ble_eq_true rfl) (Nat.le_of_ble_eq_true rfl) dX2_addTo_38)
      · refine W.eq (g2 := F0 m 22 ls [.ref b9]) rfl ?_
        replace h := h.2 b9 rfl
        refine lv_astore (lv' := [(5, .ref b9), (0, .ref l0), (1, .ref l1), (3, .int l3), (4, .int l4)]) hx hb dX2_addTo_22 hl (by decide) rfl (fun ls hl => ?_)
        refine lv_aload hx hb dX2_addTo_24 (lv_at hl 0 rfl) ?_
        refine lv_ifnull hx hb dX2_addTo_26 ?_
        refine lv_aload hx hb dX2_addTo_29 (lv_at hl 0 rfl) ?_
        obtain ⟨g10, h⟩ := h
        refine xr_getI (ci := 1) (C := RX1) (T := TX1) (N := 8) hx hb hL1 hown hK hh g10 (by decide) rfl 0 20 rfl rfl (by decide) (by decide) q4 (fun _ h9 => h9) dX2_addTo_31 ?_
        refine lv_iload_n hx hb dX2_addTo_34 rfl (lv_at hl 3 rfl) ?_
        refine lv_icmp_lt (tgt := 39) hx hb dX2_addTo_35 (by decide) (fun c11 => ?_) (fun c11 => ?_)
        · replace h := h.1 c11
          refine lv_aload_n hx hb dX2_addTo_39 rfl (lv_at hl 2 rfl) ?_
          refine lv_aload hx hb dX2_addTo_40 (lv_at hl 0 rfl) ?_
          obtain ⟨g12, h⟩ := h
          refine xc_v (va_runV (As := [.ref b9]) (rest := []) ⟨hx, hb, hml, hown, hts⟩ (mt_X1_addRollup l G base h) (cwV 1 hts gX2_addTo_X1_addRollup rfl rfl rfl (by decide +kernel) ⟨Nat.le_of_ble_eq_true rfl, Nat.le_of_ble_eq_true rfl⟩) (xp_V hbase hh hK hX hS (ci := 1) g12 (by decide) rfl) rfl rfl hl.1 rfl (lv_room (Nat.le_of_ble_eq_true rfl)) dX2_addTo_42 ⟨Nat.le_of_ble_eq_true rfl, Nat.le_of_ble_eq_true rfl⟩) hS (fun m14 H locs h hh hS => ?_)
          obtain ⟨x15, ex15⟩ : ∃ y : Int32, y = l4 + 1 := ⟨_, rfl⟩
          replace h := h x15 ex15
          refine lv_iinc (v := x15) (lv' := [(4, .int x15), (5, .ref b9), (0, .ref l0), (1, .ref l1), (3, .int l3)]) hx hb dX2_addTo_45 hl (k := 4) rfl (by rw [ex15]; rfl) (by decide) rfl (fun ls hl => ?_)
          refine lv_goto (tgt := 7) hx hb dX2_addTo_48 (by decide) ?_
          exact ih _ _ _ _ _ _ _ _ h hh hS (lv_sub hl [2, 3, 4, 0] rfl)
        · replace h := h.2 c11
          exact (xe_v hx hb hr hlocks hbase hh hK hX hS h (Nat.le_of_ble_eq_true rfl) (Nat.le_of_ble_eq_true rfl) dX2_addTo_38)

set_option maxHeartbeats 4000000 in
set_option maxRecDepth 100000 in
theorem mt_X2_addTo (l : Launch) (G : GG) (base : Nat) {a0 : Nat} {p1 : Nat} {p2 : Int32} {p3 : Int32} {m0 : MM} {Q : MM → Prop} (h : wp_X2_addTo a0 p1 p2 p3 m0 Q) : Met l yX2_addTo wsX2_addTo ({ frames := 2, cells := 0, slots := 0, locals := 92 }) (va_Pc [.ref a0, .ref p1, .int p2, .int p3] (SP G base m0)) (va_Qv Q (HB G base) (xA base)) 0 0 (xA base) := by
  refine Met.ofW (cc := cX2_addTo) (maxL := 6) (ret := none) (by decide) rfl ?_
  intro p e s m args below meth c s₁ B hml hv
  obtain ⟨rfl, hbase, hh, hK, hX⟩ := hv
  have C0 : BC p s m _ meth c G base RX2 cX2_addTo 6 none wsX2_addTo := ⟨B.exec, B.bytes, B.returns, hml, findClass_of_methodNamed B.named, atoms_spec (ws := wsX2_addTo) B.pre, B.notSynchronized, hK, hbase, hX⟩
  obtain ⟨hx, hb, hr, -, hown, hts, hlocks, -, -, -⟩ := id C0
  have hS : va_S (xA base) s.heap s.heap [] := va_S.rf
  have hl := lv_entry ([.ref a0, .ref p1, .int p2, .int p3]) (n := 6) (Nat.le_of_ble_eq_true rfl)
  rw [lg_entry_eq]
  generalize (lg_sl ([.ref a0, .ref p1, .int p2, .int p3]) ++ List.replicate (6 - (lg_sl ([.ref a0, .ref p1, .int p2, .int p3])).length) Slot.unset).toArray = ls at hl ⊢
  have hl : lv_has ls 6 [(0, .ref a0), (1, .ref p1), (2, .int p2), (3, .int p3)] := hl
  unfold wp_X2_addTo at h
  refine lv_aload_n hx hb dX2_addTo_0 rfl (lv_at hl 0 rfl) ?_
  refine lv_iload_n hx hb dX2_addTo_1 rfl (lv_at hl 2 rfl) ?_
  obtain ⟨g1, h⟩ := h
  refine xc_i (va_runV (As := [.int p2]) (rest := []) ⟨hx, hb, hml, hown, hts⟩ (mt_X2_placeFrom l G base h) (cwV 1 hts gX2_addTo_X2_placeFrom rfl rfl rfl (by decide +kernel) ⟨Nat.le_of_ble_eq_true rfl, Nat.le_of_ble_eq_true rfl⟩) (xp_V hbase hh hK hX hS (ci := 2) g1 (by decide) rfl) rfl rfl hl.1 rfl (lv_room (Nat.le_of_ble_eq_true rfl)) dX2_addTo_2 ⟨Nat.le_of_ble_eq_true rfl, Nat.le_of_ble_eq_true rfl⟩) hS (fun r2 m3 H locs h hh hS => ?_)
  refine lv_istore (lv' := [(4, .int r2), (0, .ref a0), (1, .ref p1), (2, .int p2), (3, .int p3)]) hx hb dX2_addTo_5 hl (by decide) rfl (fun ls hl => ?_)
  obtain ⟨n9, h⟩ := h
  exact bk_X2_addTo_7 C0  n9 _ _ _ _ _ _ _ _ h hh hS (lv_sub hl [1, 2, 4, 0] rfl)

set_option maxHeartbeats 4000000 in
set_option maxRecDepth 100000 in
theorem bk_X0_placeFrom_5 {p : Program} {l : Launch} {e : Env} {s : State} {m : MethodId} {args : Array Value} {below : List Frame} {meth : Method} {c : Code} {G : GG} {base : Nat} (C0 : BC p s m args meth c G base RX0 cX0_placeFrom 4 (some .int) wsX0_placeFrom) {Q : Int32 → MM → Prop} : ∀ (n : Nat) (l0 : Nat) (l1 : Int32) (l2 : Int32) (l3 : Int32) (m0 : MM) (H : Heap) (locs : List Loc) (ls : Array Slot), wp_X0_placeFrom_5 Q n l0 l1 l2 l3 m0 → hp G (xA base) m0 H → va_S (xA base) s.heap H locs → lv_has ls 4 [(0, .ref l0), (1, .int l1), (2, .int l2), (3, .int l3)] → W p l e ({ frames := 0, cells := 0, slots := 0, locals := 8 } : Room) s m args below meth c H locs 0 0 (MQ below (va_Qi Q (HB G base) (xA base)) args s 0 0 (xA base)) (F0 m 5 ls []) := by
  obtain ⟨hx, hb, hr, hml, hown, hts, hlocks, hK, hbase, hX⟩ := id C0
  intro n
  induction n with
  | zero =>
    intro l0 l1 l2 l3 m0 H locs ls h
    unfold wp_X0_placeFrom_5 at h
    exact h.elim
  | succ n ih =>
    intro l0 l1 l2 l3 m0 H locs ls h hh hS hl
    unfold wp_X0_placeFrom_5 at h
    have hL0 : ∀ w ∈ u_ws RX0 TX0 3, w.before _ s = true := fun w h9 => hts w (List.mem_cons_of_mem _ (List.mem_append_right _ (h9)))
    have q2 : (Cond.fieldLink RX0 18 "RollupStore$Points" "kept" "I").before _ s = true := hts _ (List.mem_cons_of_mem _ (List.mem_append_left _ (List.mem_of_getElem? (i := 0) rfl)))
    have q3 : (Cond.fieldLink RX0 9 "RollupStore$Points" "times" "[I").before _ s = true := hts _ (List.mem_cons_of_mem _ (List.mem_append_left _ (List.mem_of_getElem? (i := 1) rfl)))
    refine lv_iload_n hx hb dX0_placeFrom_5 rfl (lv_at hl 3 rfl) ?_
    refine lv_if_le (tgt := 44) hx hb dX0_placeFrom_6 (by decide) (fun c3 => ?_) (fun c3 => ?_)
    · replace h := h.1 c3
      refine lv_iload_n hx hb dX0_placeFrom_44 rfl (lv_at hl 2 rfl) ?_
      exact (xe_i hx hb hr hlocks hbase hh hK hX hS h (Nat.le_of_ble_eq_true rfl) (Nat.le_of_ble_eq_true rfl) dX0_placeFrom_45)
    · replace h := h.2 c3
      refine lv_iload_n hx hb dX0_placeFrom_9 rfl (lv_at hl 2 rfl) ?_
      refine lv_iload_n hx hb dX0_placeFrom_10 rfl (lv_at hl 3 rfl) ?_
      refine lv_iadd hx hb dX0_placeFrom_11 ?_
      refine lv_aload_n hx hb dX0_placeFrom_12 rfl (lv_at hl 0 rfl) ?_
      obtain ⟨g4, h⟩ := h
      refine xr_getI (ci := 0) (C := RX0) (T := TX0) (N := 3) hx hb hL0 hown hK hh g4 (by decide) rfl 2 2 rfl rfl (by decide) (by decide) q2 (fun _ h9 => h9) dX0_placeFrom_13 ?_
      refine lv_icmp_gt (tgt := 37) hx hb dX0_placeFrom_16 (by decide) (fun c5 => ?_) (fun c5 => ?_)
      · replace h := h.1 c5
        refine lv_iload_n hx hb dX0_placeFrom_37 rfl (lv_at hl 3 rfl) ?_
        refine lv_iconst (v := 1) hx hb dX0_placeFrom_38 (by decide) ?_
        refine lv_ishr hx hb dX0_placeFrom_39 ?_
        refine lv_topi (fun x6 ex6 => ?_)
        replace h := h x6 ex6
        refine lv_istore_n (lv' := [(3, .int x6), (0, .ref l0), (1, .int l1), (2, .int l2)]) hx hb dX0_placeFrom_40 rfl hl (by decide) rfl (fun ls hl => ?_)
        refine lv_goto (tgt := 5) hx hb dX0_placeFrom_41 (by decide) ?_
        exact ih _ _ _ _ _ _ _ _ h hh hS (lv_sub hl [1, 2, 3, 0] rfl)
      · replace h := h.2 c5
        refine lv_aload_n hx hb dX0_placeFrom_19 rfl (lv_at hl 0 rfl) ?_
        obtain ⟨g7, h⟩ := h
        obtain ⟨b8, eb8, h⟩ := h
        refine xr_getR (ci := 0) (C := RX0) (T := TX0) (N := 3) hx hb hL0 hown hK hh g7 (by decide) rfl 0 0 rfl rfl (by decide) (by decide) q3 (fun _ h9 => h9) eb8 dX0_placeFrom_20 ?_
        refine lv_iload_n hx hb dX0_placeFrom_23 rfl (lv_at hl 2 rfl) ?_
        refine lv_iload_n hx hb dX0_placeFrom_24 rfl (lv_at hl 3 rfl) ?_
        refine lv_iadd hx hb dX0_placeFrom_25 ?_
        refine lv_iconst (v := 1) hx hb dX0_placeFrom_26 (by decide) ?_
        refine lv_isub hx hb dX0_placeFrom_27 ?_
        obtain ⟨g9, h⟩ := h
        obtain ⟨g10, h⟩ := h
        refine xr_iald hx hb hK hh g9 g10 dX0_placeFrom_28 ?_
        refine lv_iload_n hx hb dX0_placeFrom_29 rfl (lv_at hl 1 rfl) ?_
        refine lv_icmp_ge (tgt := 37) hx hb dX0_placeFrom_30 (by decide) (fun c11 => ?_) (fun c11 => ?_)
        · replace h := h.1 c11
          refine lv_iload_n hx hb dX0_placeFrom_37 rfl (lv_at hl 3 rfl) ?_
          refine lv_iconst (v := 1) hx hb dX0_placeFrom_38 (by decide) ?_
          refine lv_ishr hx hb dX0_placeFrom_39 ?_
          refine lv_topi (fun x12 ex12 => ?_)
          replace h := h x12 ex12
          refine lv_istore_n (lv' := [(3, .int x12), (0, .ref l0), (1, .int l1), (2, .int l2)]) hx hb dX0_placeFrom_40 rfl hl (by decide) rfl (fun ls hl => ?_)
          refine lv_goto (tgt := 5) hx hb dX0_placeFrom_41 (by decide) ?_
          exact ih _ _ _ _ _ _ _ _ h hh hS (lv_sub hl [1, 2, 3, 0] rfl)
        · replace h := h.2 c11
          refine lv_iload_n hx hb dX0_placeFrom_33 rfl (lv_at hl 2 rfl) ?_
          refine lv_iload_n hx hb dX0_placeFrom_34 rfl (lv_at hl 3 rfl) ?_
          refine lv_iadd hx hb dX0_placeFrom_35 ?_
          refine lv_topi (fun x13 ex13 => ?_)
          replace h := h x13 ex13
          refine lv_istore_n (lv' := [(2, .int x13), (0, .ref l0), (1, .int l1), (3, .int l3)]) hx hb dX0_placeFrom_36 rfl hl (by decide) rfl (fun ls hl => ?_)
          refine lv_iload_n hx hb dX0_placeFrom_37 rfl (lv_at hl 3 rfl) ?_
          refine lv_iconst (v := 1) hx hb dX0_placeFrom_38 (by decide) ?_
          refine lv_ishr hx hb dX0_placeFrom_39 ?_
          refine lv_topi (fun x14 ex14 => ?_)
          replace h := h x14 ex14
          refine lv_istore_n (lv' := [(3, .int x14), (2, .int x13), (0, .ref l0), (1, .int l1)]) hx hb dX0_placeFrom_40 rfl hl (by decide) rfl (fun ls hl => ?_)
          refine lv_goto (tgt := 5) hx hb dX0_placeFrom_41 (by decide) ?_
          exact ih _ _ _ _ _ _ _ _ h hh hS (lv_sub hl [2, 3, 1, 0] rfl)

set_option maxHeartbeats 4000000 in
set_option maxRecDepth 100000 in
theorem mt_X0_placeFrom (l : Launch) (G : GG) (base : Nat) {a0 : Nat} {p1 : Int32} {m0 : MM} {Q : Int32 → MM → Prop} (h : wp_X0_placeFrom a0 p1 m0 Q) : Met l yX0_placeFrom wsX0_placeFrom ({ frames := 0, cells := 0, slots := 0, locals := 8 }) (va_Pc [.ref a0, .int p1] (SP G base m0)) (va_Qi Q (HB G base) (xA base)) 0 0 (xA base) := by
  refine Met.ofW (cc := cX0_placeFrom) (maxL := 4) (ret := (some .int)) (by decide) rfl ?_
  intro p e s m args below meth c s₁ B hml hv
  obtain ⟨rfl, hbase, hh, hK, hX⟩ := hv
  have C0 : BC p s m _ meth c G base RX0 cX0_placeFrom 4 (some .int) wsX0_placeFrom := ⟨B.exec, B.bytes, B.returns, hml, findClass_of_methodNamed B.named, atoms_spec (ws := wsX0_placeFrom) B.pre, B.notSynchronized, hK, hbase, hX⟩
  obtain ⟨hx, hb, hr, -, hown, hts, hlocks, -, -, -⟩ := id C0
  have hS : va_S (xA base) s.heap s.heap [] := va_S.rf
  have hl := lv_entry ([.ref a0, .int p1]) (n := 4) (Nat.le_of_ble_eq_true rfl)
  rw [lg_entry_eq]
  generalize (lg_sl ([.ref a0, .int p1]) ++ List.replicate (4 - (lg_sl ([.ref a0, .int p1])).length) Slot.unset).toArray = ls at hl ⊢
  have hl : lv_has ls 4 [(0, .ref a0), (1, .int p1)] := hl
  unfold wp_X0_placeFrom at h
  refine lv_iconst (v := 0) hx hb dX0_placeFrom_0 (by decide) ?_
  refine lv_topi (fun x1 ex1 => ?_)
  replace h := h x1 ex1
  refine lv_istore_n (lv' := [(2, .int x1), (0, .ref a0), (1, .int p1)]) hx hb dX0_placeFrom_1 rfl hl (by decide) rfl (fun ls hl => ?_)
  refine lv_bipush (v := 64) hx hb dX0_placeFrom_2 (by decide) ?_
  refine lv_topi (fun x2 ex2 => ?_)
  replace h := h x2 ex2
  refine lv_istore_n (lv' := [(3, .int x2), (2, .int x1), (0, .ref a0), (1, .int p1)]) hx hb dX0_placeFrom_4 rfl hl (by decide) rfl (fun ls hl => ?_)
  obtain ⟨n9, h⟩ := h
  exact bk_X0_placeFrom_5 C0  n9 _ _ _ _ _ _ _ _ h hh hS (lv_sub hl [2, 3, 1, 0] rfl)

set_option maxHeartbeats 4000000 in
set_option maxRecDepth 100000 in
theorem mt_X1_addPoint (l : Launch) (G : GG) (base : Nat) {a0 : Nat} {p1 : Int32} {m0 : MM} {Q : MM → Prop} (h : wp_X1_addPoint a0 p1 m0 Q) : Met l yX1_addPoint wsX1_addPoint ({ frames := 1, cells := 0, slots := 0, locals := 70 }) (va_Pc [.ref a0, .int p1] (SP G base m0)) (va_Qv Q (HB G base) (xA base)) 0 0 (xA base) := by
  refine Met.ofW (cc := cX1_addPoint) (maxL := 2) (ret := none) (by decide) rfl ?_
  intro p e s m args below meth c s₁ B hml hv
  obtain ⟨rfl, hbase, hh, hK, hX⟩ := hv
  have C0 : BC p s m _ meth c G base RX1 cX1_addPoint 2 none wsX1_addPoint := ⟨B.exec, B.bytes, B.returns, hml, findClass_of_methodNamed B.named, atoms_spec (ws := wsX1_addPoint) B.pre, B.notSynchronized, hK, hbase, hX⟩
  obtain ⟨hx, hb, hr, -, hown, hts, hlocks, -, -, -⟩ := id C0
  have hS : va_S (xA base) s.heap s.heap [] := va_S.rf
  have hl := lv_entry ([.ref a0, .int p1]) (n := 2) (Nat.le_of_ble_eq_true rfl)
  rw [lg_entry_eq]
  generalize (lg_sl ([.ref a0, .int p1]) ++ List.replicate (2 - (lg_sl ([.ref a0, .int p1])).length) Slot.unset).toArray = ls at hl ⊢
  have hl : lv_has ls 2 [(0, .ref a0), (1, .int p1)] := hl
  unfold wp_X1_addPoint at h
  have hL1 : ∀ w ∈ u_ws RX1 TX1 8, w.before _ s = true := fun w h9 => hts w (List.mem_cons_of_mem _ (List.mem_append_right _ (h9)))
  have q2 : (Cond.fieldLink RX1 7 "RollupStore$Rollup" "count" "I").before _ s = true := hts _ (List.mem_cons_of_mem _ (List.mem_append_left _ (List.mem_of_getElem? (i := 0) rfl)))
  have q3 : (Cond.fieldLink RX1 24 "RollupStore$Rollup" "least" "I").before _ s = true := hts _ (List.mem_cons_of_mem _ (List.mem_append_left _ (List.mem_of_getElem? (i := 1) rfl)))
  have q4 : (Cond.methodLink RX1 27 Lib.Math.min.name).before _ s = true := hts _ (List.mem_cons_of_mem _ (List.mem_append_left _ (List.mem_of_getElem? (i := 2) rfl)))
  have q5 : (Cond.static Lib.Math.min.name).before _ s = true := hts _ (List.mem_cons_of_mem _ (List.mem_append_left _ (List.mem_of_getElem? (i := 3) rfl)))
  have q6 : (Cond.initialized "java/lang/Math").before _ s = true := hts _ (List.mem_cons_of_mem _ (List.mem_append_left _ (List.mem_of_getElem? (i := 4) rfl)))
  have q7 : (Cond.code Lib.Math.min.name Lib.Math.min.code 2 (some .int)).before _ s = true := hts _ (List.mem_cons_of_mem _ (List.mem_append_left _ (List.mem_of_getElem? (i := 5) rfl)))
  have q8 : (Cond.fieldLink RX1 33 "RollupStore$Rollup" "greatest" "I").before _ s = true := hts _ (List.mem_cons_of_mem _ (List.mem_append_left _ (List.mem_of_getElem? (i := 6) rfl)))
  have q9 : (Cond.methodLink RX1 36 Lib.Math.max.name).before _ s = true := hts _ (List.mem_cons_of_mem _ (List.mem_append_left _ (List.mem_of_getElem? (i := 7) rfl)))
  have q10 : (Cond.static Lib.Math.max.name).before _ s = true := hts _ (List.mem_cons_of_mem _ (List.mem_append_left _ (List.mem_of_getElem? (i := 8) rfl)))
  have q11 : (Cond.code Lib.Math.max.name Lib.Math.max.code 2 (some .int)).before _ s = true := hts _ (List.mem_cons_of_mem _ (List.mem_append_left _ (List.mem_of_getElem? (i := 9) rfl)))
  have q12 : (Cond.fieldLink RX1 13 "RollupStore$Rollup" "sum" "J").before _ s = true := hts _ (List.mem_cons_of_mem _ (List.mem_append_left _ (List.mem_of_getElem? (i := 10) rfl)))
  refine lv_aload_n hx hb dX1_addPoint_0 rfl (lv_at hl 0 rfl) ?_
  refine lv_iconst (v := 1) hx hb dX1_addPoint_1 (by decide) ?_
  refine lv_iload_n hx hb dX1_addPoint_2 rfl (lv_at hl 1 rfl) ?_
  refine lv_iload_n hx hb dX1_addPoint_3 rfl (lv_at hl 1 rfl) ?_
  obtain ⟨g1, h⟩ := h
  refine xc_v (va_runV (As := [.int (1 : Int32), .int p1, .int p1]) (rest := []) ⟨hx, hb, hml, hown, hts⟩ (mt_X1_join l G base h) (cwV 3 hts gX1_addPoint_X1_join rfl rfl rfl (by decide +kernel) ⟨Nat.le_of_ble_eq_true rfl, Nat.le_of_ble_eq_true rfl⟩) (xp_V hbase hh hK hX hS (ci := 1) g1 (by decide) rfl) rfl rfl hl.1 rfl (lv_room (Nat.le_of_ble_eq_true rfl)) dX1_addPoint_4 ⟨Nat.le_of_ble_eq_true rfl, Nat.le_of_ble_eq_true rfl⟩) hS (fun m3 H locs h hh hS => ?_)
  refine lv_aload_n hx hb dX1_addPoint_7 rfl (lv_at hl 0 rfl) ?_
  refine lv_aload_n hx hb dX1_addPoint_8 rfl (lv_at hl 0 rfl) ?_
  obtain ⟨g4, h⟩ := h
  refine xr_getI (ci := 1) (C := RX1) (T := TX1) (N := 8) hx hb hL1 hown hK hh g4 (by decide) rfl 1 21 rfl rfl (by decide) (by decide) q2 (fun _ h9 => h9) dX1_addPoint_9 ?_
  refine lv_iconst (v := 1) hx hb dX1_addPoint_12 (by decide) ?_
  refine lv_icmp_ne (tgt := 20) hx hb dX1_addPoint_13 (by decide) (fun c5 => ?_) (fun c5 => ?_)
  · replace h := h.1 c5
    refine lv_aload_n hx hb dX1_addPoint_20 rfl (lv_at hl 0 rfl) ?_
    obtain ⟨g6, h⟩ := h
    refine xr_getI (ci := 1) (C := RX1) (T := TX1) (N := 8) hx hb hL1 hown hK hh g6 (by decide) rfl 3 23 rfl rfl (by decide) (by decide) q3 (fun _ h9 => h9) dX1_addPoint_21 ?_
    refine lv_iload_n hx hb dX1_addPoint_24 rfl (lv_at hl 1 rfl) ?_
    refine va_mmin hx hb (hml.trans hl.1.symm) hown q4 q5 q6 q7 (Nat.le_of_ble_eq_true rfl) (Nat.le_of_ble_eq_true rfl) (Nat.le_of_ble_eq_true rfl) (Nat.le_of_ble_eq_true rfl) dX1_addPoint_25 ?_
    obtain ⟨g7, h⟩ := h
    refine xr_putI (ci := 1) (C := RX1) (T := TX1) (N := 8) hx hb hL1 hown hK hh g7 (by decide) rfl 3 23 rfl rfl (by decide) (by decide) q3 (fun _ h9 => h9) tyX1 tyX1_ok nmX1 rfl rfl rfl hS dX1_addPoint_28 (fun H locs hh hS => ?_)
    obtain ⟨m8, em8⟩ : ∃ z : MM, z = sI m3 23 a0 (if p1 < (mI m3 23 a0) then p1 else (mI m3 23 a0)) := ⟨_, rfl⟩
    rw [← em8] at hh
    replace h := h m8 em8
    refine lv_aload_n hx hb dX1_addPoint_31 rfl (lv_at hl 0 rfl) ?_
    refine lv_aload_n hx hb dX1_addPoint_32 rfl (lv_at hl 0 rfl) ?_
    obtain ⟨g9, h⟩ := h
    refine xr_getI (ci := 1) (C := RX1) (T := TX1) (N := 8) hx hb hL1 hown hK hh g9 (by decide) rfl 1 21 rfl rfl (by decide) (by decide) q2 (fun _ h9 => h9) dX1_addPoint_33 ?_
    refine lv_iconst (v := 1) hx hb dX1_addPoint_36 (by decide) ?_
    refine lv_icmp_ne (tgt := 44) hx hb dX1_addPoint_37 (by decide) (fun c10 => ?_) (fun c10 => ?_)
    · replace h := h.1 c10
      refine lv_aload_n hx hb dX1_addPoint_44 rfl (lv_at hl 0 rfl) ?_
      obtain ⟨g11, h⟩ := h
      refine xr_getI (ci := 1) (C := RX1) (T := TX1) (N := 8) hx hb hL1 hown hK hh g11 (by decide) rfl 4 24 rfl rfl (by decide) (by decide) q8 (fun _ h9 => h9) dX1_addPoint_45 ?_
      refine lv_iload_n hx hb dX1_addPoint_48 rfl (lv_at hl 1 rfl) ?_
      refine va_mmax hx hb (hml.trans hl.1.symm) hown q9 q10 q6 q11 (Nat.le_of_ble_eq_true rfl) (Nat.le_of_ble_eq_true rfl) (Nat.le_of_ble_eq_true rfl) (Nat.le_of_ble_eq_true rfl) dX1_addPoint_49 ?_
      obtain ⟨g12, h⟩ := h
      refine xr_putI (ci := 1) (C := RX1) (T := TX1) (N := 8) hx hb hL1 hown hK hh g12 (by decide) rfl 4 24 rfl rfl (by decide) (by decide) q8 (fun _ h9 => h9) tyX1 tyX1_ok nmX1 rfl rfl rfl hS dX1_addPoint_52 (fun H locs hh hS => ?_)
      obtain ⟨m13, em13⟩ : ∃ z : MM, z = sI m8 24 a0 (if (mI m8 24 a0) < p1 then p1 else (mI m8 24 a0)) := ⟨_, rfl⟩
      rw [← em13] at hh
      replace h := h m13 em13
      refine lv_aload_n hx hb dX1_addPoint_55 rfl (lv_at hl 0 rfl) ?_
      refine lv_dup hx hb dX1_addPoint_56 rfl ?_
      obtain ⟨g14, h⟩ := h
      refine xr_getJ (ci := 1) (C := RX1) (T := TX1) (N := 8) hx hb hL1 hown hK hh g14 (by decide) rfl 2 22 rfl rfl (by decide) (by decide) q12 (fun _ h9 => h9) dX1_addPoint_57 ?_
      refine lv_iload_n hx hb dX1_addPoint_60 rfl (lv_at hl 1 rfl) ?_
      refine lv_i2l hx hb dX1_addPoint_61 rfl ?_
      refine lv_ladd hx hb dX1_addPoint_62 ?_
      obtain ⟨g15, h⟩ := h
      refine xr_putJ (ci := 1) (C := RX1) (T := TX1) (N := 8) hx hb hL1 hown hK hh g15 (by decide) rfl 2 22 rfl rfl (by decide) (by decide) q12 (fun _ h9 => h9) tyX1 tyX1_ok nmX1 rfl rfl rfl hS dX1_addPoint_63 (fun H locs hh hS => ?_)
      obtain ⟨m16, em16⟩ : ∃ z : MM, z = sJ m13 22 a0 ((mJ m13 22 a0) + p1.toInt64) := ⟨_, rfl⟩
      rw [← em16] at hh
      replace h := h m16 em16
      exact (xe_v hx hb hr hlocks hbase hh hK hX hS h (Nat.le_of_ble_eq_true rfl) (Nat.le_of_ble_eq_true rfl) dX1_addPoint_66)
    · replace h := h.2 c10
      refine lv_iload_n hx hb dX1_addPoint_40 rfl (lv_at hl 1 rfl) ?_
      refine lv_goto (tgt := 52) hx hb dX1_addPoint_41 (by decide) ?_
      obtain ⟨g17, h⟩ := h
      refine xr_putI (ci := 1) (C := RX1) (T := TX1) (N := 8) hx hb hL1 hown hK hh g17 (by decide) rfl 4 24 rfl rfl (by decide) (by decide) q8 (fun _ h9 => h9) tyX1 tyX1_ok nmX1 rfl rfl rfl hS dX1_addPoint_52 (fun H locs hh hS => ?_)
      obtain ⟨m18, em18⟩ : ∃ z : MM, z = sI m8 24 a0 p1 := ⟨_, rfl⟩
      rw [← em18] at hh
      replace h := h m18 em18
      refine lv_aload_n hx hb dX1_addPoint_55 rfl (lv_at hl 0 rfl) ?_
      refine lv_dup hx hb dX1_addPoint_56 rfl ?_
      obtain ⟨g19, h⟩ := h
      refine xr_getJ (ci := 1) (C := RX1) (T := TX1) (N := 8) hx hb hL1 hown hK hh g19 (by decide) rfl 2 22 rfl rfl (by decide) (by decide) q12 (fun _ h9 => h9) dX1_addPoint_57 ?_
      refine lv_iload_n hx hb dX1_addPoint_60 rfl (lv_at hl 1 rfl) ?_
      refine lv_i2l hx hb dX1_addPoint_61 rfl ?_
      refine lv_ladd hx hb dX1_addPoint_62 ?_
      obtain ⟨g20, h⟩ := h
      refine xr_putJ (ci := 1) (C := RX1) (T := TX1) (N := 8) hx hb hL1 hown hK hh g20 (by decide) rfl 2 22 rfl rfl (by decide) (by decide) q12 (fun _ h9 => h9) tyX1 tyX1_ok nmX1 rfl rfl rfl hS dX1_addPoint_63 (fun H locs hh hS => ?_)
      obtain ⟨m21, em21⟩ : ∃ z : MM, z = sJ m18 22 a0 ((mJ m18 22 a0) + p1.toInt64) := ⟨_, rfl⟩
      rw [← em21] at hh
      replace h := h m21 em21
      exact (xe_v hx hb hr hlocks hbase hh hK hX hS h (Nat.le_of_ble_eq_true rfl) (Nat.le_of_ble_eq_true rfl) dX1_addPoint_66)
  · replace h := h.2 c5
    refine lv_iload_n hx hb dX1_addPoint_16 rfl (lv_at hl 1 rfl) ?_
    refine lv_goto (tgt := 28) hx hb dX1_addPoint_17 (by decide) ?_
    obtain ⟨g22, h⟩ := h
    refine xr_putI (ci := 1) (C := RX1) (T := TX1) (N := 8) hx hb hL1 hown hK hh g22 (by decide) rfl 3 23 rfl rfl (by decide) (by decide) q3 (fun _ h9 => h9) tyX1 tyX1_ok nmX1 rfl rfl rfl hS dX1_addPoint_28 (fun H locs hh hS => ?_)
    obtain ⟨m23, em23⟩ : ∃ z : MM, z = sI m3 23 a0 p1 := ⟨_, rfl⟩
    rw [← em23] at hh
    replace h := h m23 em23
    refine lv_aload_n hx hb dX1_addPoint_31 rfl (lv_at hl 0 rfl) ?_
    refine lv_aload_n hx hb dX1_addPoint_32 rfl (lv_at hl 0 rfl) ?_
    obtain ⟨g24, h⟩ := h
    refine xr_getI (ci := 1) (C := RX1) (T := TX1) (N := 8) hx hb hL1 hown hK hh g24 (by decide) rfl 1 21 rfl rfl (by decide) (by decide) q2 (fun _ h9 => h9) dX1_addPoint_33 ?_
    refine lv_iconst (v := 1) hx hb dX1_addPoint_36 (by decide) ?_
    refine lv_icmp_ne (tgt := 44) hx hb dX1_addPoint_37 (by decide) (fun c25 => ?_) (fun c25 => ?_)
    · replace h := h.1 c25
      refine lv_aload_n hx hb dX1_addPoint_44 rfl (lv_at hl 0 rfl) ?_
      obtain ⟨g26, h⟩ := h
      refine xr_getI (ci := 1) (C := RX1) (T := TX1) (N := 8) hx hb hL1 hown hK hh g26 (by decide) rfl 4 24 rfl rfl (by decide) (by decide) q8 (fun _ h9 => h9) dX1_addPoint_45 ?_
      refine lv_iload_n hx hb dX1_addPoint_48 rfl (lv_at hl 1 rfl) ?_
      refine va_mmax hx hb (hml.trans hl.1.symm) hown q9 q10 q6 q11 (Nat.le_of_ble_eq_true rfl) (Nat.le_of_ble_eq_true rfl) (Nat.le_of_ble_eq_true rfl) (Nat.le_of_ble_eq_true rfl) dX1_addPoint_49 ?_
      obtain ⟨g27, h⟩ := h
      refine xr_putI (ci := 1) (C := RX1) (T := TX1) (N := 8) hx hb hL1 hown hK hh g27 (by decide) rfl 4 24 rfl rfl (by decide) (by decide) q8 (fun _ h9 => h9) tyX1 tyX1_ok nmX1 rfl rfl rfl hS dX1_addPoint_52 (fun H locs hh hS => ?_)
      obtain ⟨m28, em28⟩ : ∃ z : MM, z = sI m23 24 a0 (if (mI m23 24 a0) < p1 then p1 else (mI m23 24 a0)) := ⟨_, rfl⟩
      rw [← em28] at hh
      replace h := h m28 em28
      refine lv_aload_n hx hb dX1_addPoint_55 rfl (lv_at hl 0 rfl) ?_
      refine lv_dup hx hb dX1_addPoint_56 rfl ?_
      obtain ⟨g29, h⟩ := h
      refine xr_getJ (ci := 1) (C := RX1) (T := TX1) (N := 8) hx hb hL1 hown hK hh g29 (by decide) rfl 2 22 rfl rfl (by decide) (by decide) q12 (fun _ h9 => h9) dX1_addPoint_57 ?_
      refine lv_iload_n hx hb dX1_addPoint_60 rfl (lv_at hl 1 rfl) ?_
      refine lv_i2l hx hb dX1_addPoint_61 rfl ?_
      refine lv_ladd hx hb dX1_addPoint_62 ?_
      obtain ⟨g30, h⟩ := h
      refine xr_putJ (ci := 1) (C := RX1) (T := TX1) (N := 8) hx hb hL1 hown hK hh g30 (by decide) rfl 2 22 rfl rfl (by decide) (by decide) q12 (fun _ h9 => h9) tyX1 tyX1_ok nmX1 rfl rfl rfl hS dX1_addPoint_63 (fun H locs hh hS => ?_)
      obtain ⟨m31, em31⟩ : ∃ z : MM, z = sJ m28 22 a0 ((mJ m28 22 a0) + p1.toInt64) := ⟨_, rfl⟩
      rw [← em31] at hh
      replace h := h m31 em31
      exact (xe_v hx hb hr hlocks hbase hh hK hX hS h (Nat.le_of_ble_eq_true rfl) (Nat.le_of_ble_eq_true rfl) dX1_addPoint_66)
    · replace h := h.2 c25
      refine lv_iload_n hx hb dX1_addPoint_40 rfl (lv_at hl 1 rfl) ?_
      refine lv_goto (tgt := 52) hx hb dX1_addPoint_41 (by decide) ?_
      obtain ⟨g32, h⟩ := h
      refine xr_putI (ci := 1) (C := RX1) (T := TX1) (N := 8) hx hb hL1 hown hK hh g32 (by decide) rfl 4 24 rfl rfl (by decide) (by decide) q8 (fun _ h9 => h9) tyX1 tyX1_ok nmX1 rfl rfl rfl hS dX1_addPoint_52 (fun H locs hh hS => ?_)
      obtain ⟨m33, em33⟩ : ∃ z : MM, z = sI m23 24 a0 p1 := ⟨_, rfl⟩
      rw [← em33] at hh
      replace h := h m33 em33
      refine lv_aload_n hx hb dX1_addPoint_55 rfl (lv_at hl 0 rfl) ?_
      refine lv_dup hx hb dX1_addPoint_56 rfl ?_
      obtain ⟨g34, h⟩ := h
      refine xr_getJ (ci := 1) (C := RX1) (T := TX1) (N := 8) hx hb hL1 hown hK hh g34 (by decide) rfl 2 22 rfl rfl (by decide) (by decide) q12 (fun _ h9 => h9) dX1_addPoint_57 ?_
      refine lv_iload_n hx hb dX1_addPoint_60 rfl (lv_at hl 1 rfl) ?_
      refine lv_i2l hx hb dX1_addPoint_61 rfl ?_
      refine lv_ladd hx hb dX1_addPoint_62 ?_
      obtain ⟨g35, h⟩ := h
      refine xr_putJ (ci := 1) (C := RX1) (T := TX1) (N := 8) hx hb hL1 hown hK hh g35 (by decide) rfl 2 22 rfl rfl (by decide) (by decide) q12 (fun _ h9 => h9) tyX1 tyX1_ok nmX1 rfl rfl rfl hS dX1_addPoint_63 (fun H locs hh hS => ?_)
      obtain ⟨m36, em36⟩ : ∃ z : MM, z = sJ m33 22 a0 ((mJ m33 22 a0) + p1.toInt64) := ⟨_, rfl⟩
      rw [← em36] at hh
      replace h := h m36 em36
      exact (xe_v hx hb hr hlocks hbase hh hK hX hS h (Nat.le_of_ble_eq_true rfl) (Nat.le_of_ble_eq_true rfl) dX1_addPoint_66)

set_option maxHeartbeats 4000000 in
set_option maxRecDepth 100000 in
theorem bk_X0_addTo_7 {p : Program} {l : Launch} {e : Env} {s : State} {m : MethodId} {args : Array Value} {below : List Frame} {meth : Method} {c : Code} {G : GG} {base : Nat} (C0 : BC p s m args meth c G base RX0 cX0_addTo 5 none wsX0_addTo) {Q : MM → Prop} : ∀ (n : Nat) (l0 : Nat) (l1 : Nat) (l3 : Int32) (l4 : Int32) (m0 : MM) (H : Heap) (locs : List Loc) (ls : Array Slot), wp_X0_addTo_7 Q n l0 l1 l3 l4 m0 → hp G (xA base) m0 H → va_S (xA base) s.heap H locs → lv_has ls 5 [(0, .ref l0), (1, .ref l1), (3, .int l3), (4, .int l4)] → W p l e ({ frames := 2, cells := 0, slots := 0, locals := 91 } : Room) s m args below meth c H locs 0 0 (MQ below (va_Qv Q (HB G base) (xA base)) args s 0 0 (xA base)) (F0 m 7 ls []) := by
  obtain ⟨hx, hb, hr, hml, hown, hts, hlocks, hK, hbase, hX⟩ := id C0
  intro n
  induction n with
  | zero =>
    intro l0 l1 l3 l4 m0 H locs ls h
    unfold wp_X0_addTo_7 at h
    exact h.elim
  | succ n ih =>
    intro l0 l1 l3 l4 m0 H locs ls h hh hS hl
    unfold wp_X0_addTo_7 at h
    have hL0 : ∀ w ∈ u_ws RX0 TX0 3, w.before _ s = true := fun w h9 => hts w (List.mem_cons_of_mem _ (List.mem_append_left _ (List.mem_append_right _ (h9))))
    have q2 : (Cond.fieldLink RX0 18 "RollupStore$Points" "kept" "I").before _ s = true := hts _ (List.mem_cons_of_mem _ (List.mem_append_left _ (List.mem_append_left _ (List.mem_append_left _ (List.mem_of_getElem? (i := 0) rfl)))))
    have q3 : (Cond.fieldLink RX0 9 "RollupStore$Points" "times" "[I").before _ s = true := hts _ (List.mem_cons_of_mem _ (List.mem_append_left _ (List.mem_append_left _ (List.mem_append_left _ (List.mem_of_getElem? (i := 1) rfl)))))
    have q4 : (Cond.fieldLink RX0 15 "RollupStore$Points" "values" "[I").before _ s = true := hts _ (List.mem_cons_of_mem _ (List.mem_append_left _ (List.mem_append_left _ (List.mem_append_left _ (List.mem_of_getElem? (i := 2) rfl)))))
    refine lv_iload hx hb dX0_addTo_7 (lv_at hl 3 rfl) ?_
    refine lv_aload_n hx hb dX0_addTo_9 rfl (lv_at hl 0 rfl) ?_
    obtain ⟨g4, h⟩ := h
    refine xr_getI (ci := 0) (C := RX0) (T := TX0) (N := 3) hx hb hL0 hown hK hh g4 (by decide) rfl 2 2 rfl rfl (by decide) (by decide) q2 (fun _ h9 => h9) dX0_addTo_10 ?_
    refine lv_icmp_ge (tgt := 44) hx hb dX0_addTo_13 (by decide) (fun c5 => ?_) (fun c5 => ?_)
    · replace h := h.1 c5
      exact (xe_v hx hb hr hlocks hbase hh hK hX hS h (Nat.le_of_ble_eq_true rfl) (Nat.le_of_ble_eq_true rfl) dX0_addTo_44)
    · replace h := h.2 c5
      refine lv_aload_n hx hb dX0_addTo_16 rfl (lv_at hl 0 rfl) ?_
      obtain ⟨g6, h⟩ := h
      obtain ⟨b7, eb7, h⟩ := h
      refine xr_getR (ci := 0) (C := RX0) (T := TX0) (N := 3) hx hb hL0 hown hK hh g6 (by decide) rfl 0 0 rfl rfl (by decide) (by decide) q3 (fun _ h9 => h9) eb7 dX0_addTo_17 ?_
      refine lv_iload hx hb dX0_addTo_20 (lv_at hl 3 rfl) ?_
      obtain ⟨g8, h⟩ := h
      obtain ⟨g9, h⟩ := h
      refine xr_iald hx hb hK hh g8 g9 dX0_addTo_22 ?_
      refine lv_iload_n hx hb dX0_addTo_23 rfl (lv_at hl 2 rfl) ?_
      refine lv_icmp_ge (tgt := 44) hx hb dX0_addTo_24 (by decide) (fun c10 => ?_) (fun c10 => ?_)
      · replace h := h.1 c10
        exact (xe_v hx hb hr hlocks hbase hh hK hX hS h (Nat.le_of_ble_eq_true rfl) (Nat.le_of_ble_eq_true rfl) dX0_addTo_44)
      · replace h := h.2 c10
        refine lv_aload_n hx hb dX0_addTo_27 rfl (lv_at hl 1 rfl) ?_
        refine lv_aload_n hx hb dX0_addTo_28 rfl (lv_at hl 0 rfl) ?_
        obtain ⟨g11, h⟩ := h
        obtain ⟨b12, eb12, h⟩ := h
        refine xr_getR (ci := 0) (C := RX0) (T := TX0) (N := 3) hx hb hL0 hown hK hh g11 (by decide) rfl 1 1 rfl rfl (by decide) (by decide) q4 (fun _ h9 => h9) eb12 dX0_addTo_29 ?_
        refine lv_iload hx hb dX0_addTo_32 (lv_at hl 3 rfl) ?_
        obtain ⟨g13, h⟩ := h
        obtain ⟨g14, h⟩ := h
        refine xr_iald hx hb hK hh g13 g14 dX0_addTo_34 ?_
        obtain ⟨g15, h⟩ := h
        refine xc_v (va_runV (As := [.int (mAI m0 b12 l4.toNatClampNeg)]) (rest := []) ⟨hx, hb, hml, hown, hts⟩ (mt_X1_addPoint l G base h) (cwV 1 hts gX0_addTo_X1_addPoint rfl rfl rfl (by decide +kernel) ⟨Nat.le_of_ble_eq_true rfl, Nat.le_of_ble_eq_true rfl⟩) (xp_V hbase hh hK hX hS (ci := 1) g15 (by decide) rfl) rfl rfl hl.1 rfl (lv_room (Nat.le_of_ble_eq_true rfl)) dX0_addTo_35 ⟨Nat.le_of_ble_eq_true rfl, Nat.le_of_ble_eq_true rfl⟩) hS (fun m17 H locs h hh hS => ?_)
        obtain ⟨x18, ex18⟩ : ∃ y : Int32, y = l4 + 1 := ⟨_, rfl⟩
        replace h := h x18 ex18
        refine lv_iinc (v := x18) (lv' := [(4, .int x18), (0, .ref l0), (1, .ref l1), (3, .int l3)]) hx hb dX0_addTo_38 hl (k := 3) rfl (by rw [ex18]; rfl) (by decide) rfl (fun ls hl => ?_)
        refine lv_goto (tgt := 7) hx hb dX0_addTo_41 (by decide) ?_
        exact ih _ _ _ _ _ _ _ _ h hh hS (lv_sub hl [1, 2, 3, 0] rfl)

set_option maxHeartbeats 4000000 in
set_option maxRecDepth 100000 in
theorem mt_X0_addTo (l : Launch) (G : GG) (base : Nat) {a0 : Nat} {p1 : Nat} {p2 : Int32} {p3 : Int32} {m0 : MM} {Q : MM → Prop} (h : wp_X0_addTo a0 p1 p2 p3 m0 Q) : Met l yX0_addTo wsX0_addTo ({ frames := 2, cells := 0, slots := 0, locals := 91 }) (va_Pc [.ref a0, .ref p1, .int p2, .int p3] (SP G base m0)) (va_Qv Q (HB G base) (xA base)) 0 0 (xA base) := by
  refine Met.ofW (cc := cX0_addTo) (maxL := 5) (ret := none) (by decide) rfl ?_
  intro p e s m args below meth c s₁ B hml hv
  obtain ⟨rfl, hbase, hh, hK, hX⟩ := hv
  have C0 : BC p s m _ meth c G base RX0 cX0_addTo 5 none wsX0_addTo := ⟨B.exec, B.bytes, B.returns, hml, findClass_of_methodNamed B.named, atoms_spec (ws := wsX0_addTo) B.pre, B.notSynchronized, hK, hbase, hX⟩
  obtain ⟨hx, hb, hr, -, hown, hts, hlocks, -, -, -⟩ := id C0
  have hS : va_S (xA base) s.heap s.heap [] := va_S.rf
  have hl := lv_entry ([.ref a0, .ref p1, .int p2, .int p3]) (n := 5) (Nat.le_of_ble_eq_true rfl)
  rw [lg_entry_eq]
  generalize (lg_sl ([.ref a0, .ref p1, .int p2, .int p3]) ++ List.replicate (5 - (lg_sl ([.ref a0, .ref p1, .int p2, .int p3])).length) Slot.unset).toArray = ls at hl ⊢
  have hl : lv_has ls 5 [(0, .ref a0), (1, .ref p1), (2, .int p2), (3, .int p3)] := hl
  unfold wp_X0_addTo at h
  refine lv_aload_n hx hb dX0_addTo_0 rfl (lv_at hl 0 rfl) ?_
  refine lv_iload_n hx hb dX0_addTo_1 rfl (lv_at hl 2 rfl) ?_
  obtain ⟨g1, h⟩ := h
  refine xc_i (va_runV (As := [.int p2]) (rest := []) ⟨hx, hb, hml, hown, hts⟩ (mt_X0_placeFrom l G base h) (cwV 1 hts gX0_addTo_X0_placeFrom rfl rfl rfl (by decide +kernel) ⟨Nat.le_of_ble_eq_true rfl, Nat.le_of_ble_eq_true rfl⟩) (xp_V hbase hh hK hX hS (ci := 0) g1 (by decide) rfl) rfl rfl hl.1 rfl (lv_room (Nat.le_of_ble_eq_true rfl)) dX0_addTo_2 ⟨Nat.le_of_ble_eq_true rfl, Nat.le_of_ble_eq_true rfl⟩) hS (fun r2 m3 H locs h hh hS => ?_)
  refine lv_istore (lv' := [(4, .int r2), (0, .ref a0), (1, .ref p1), (2, .int p2), (3, .int p3)]) hx hb dX0_addTo_5 hl (by decide) rfl (fun ls hl => ?_)
  obtain ⟨n9, h⟩ := h
  exact bk_X0_addTo_7 C0  n9 _ _ _ _ _ _ _ _ h hh hS (lv_sub hl [1, 2, 4, 0] rfl)

set_option maxHeartbeats 4000000 in
set_option maxRecDepth 100000 in
theorem mt_X0_remove (l : Launch) (G : GG) (base : Nat) {a0 : Nat} {p1 : Int32} {p2 : Int32} {m0 : MM} {Q : MM → Prop} (h : wp_X0_remove a0 p1 p2 m0 Q) : Met l yX0_remove wsX0_remove ({ frames := 1, cells := 0, slots := 0, locals := 70 }) (va_Pc [.ref a0, .int p1, .int p2] (SP G base m0)) (va_Qv Q (HB G base) (xA base)) 0 0 (xA base) := by
  refine Met.ofW (cc := cX0_remove) (maxL := 3) (ret := none) (by decide) rfl ?_
  intro p e s m args below meth c s₁ B hml hv
  obtain ⟨rfl, hbase, hh, hK, hX⟩ := hv
  have C0 : BC p s m _ meth c G base RX0 cX0_remove 3 none wsX0_remove := ⟨B.exec, B.bytes, B.returns, hml, findClass_of_methodNamed B.named, atoms_spec (ws := wsX0_remove) B.pre, B.notSynchronized, hK, hbase, hX⟩
  obtain ⟨hx, hb, hr, -, hown, hts, hlocks, -, -, -⟩ := id C0
  have hS : va_S (xA base) s.heap s.heap [] := va_S.rf
  have hl := lv_entry ([.ref a0, .int p1, .int p2]) (n := 3) (Nat.le_of_ble_eq_true rfl)
  rw [lg_entry_eq]
  generalize (lg_sl ([.ref a0, .int p1, .int p2]) ++ List.replicate (3 - (lg_sl ([.ref a0, .int p1, .int p2])).length) Slot.unset).toArray = ls at hl ⊢
  have hl : lv_has ls 3 [(0, .ref a0), (1, .int p1), (2, .int p2)] := hl
  unfold wp_X0_remove at h
  have hL0 : ∀ w ∈ u_ws RX0 TX0 3, w.before _ s = true := fun w h9 => hts w (List.mem_cons_of_mem _ (List.mem_append_right _ (h9)))
  have q2 : (Cond.fieldLink RX0 18 "RollupStore$Points" "kept" "I").before _ s = true := hts _ (List.mem_cons_of_mem _ (List.mem_append_left _ (List.mem_of_getElem? (i := 0) rfl)))
  have q3 : (Cond.fieldLink RX0 9 "RollupStore$Points" "times" "[I").before _ s = true := hts _ (List.mem_cons_of_mem _ (List.mem_append_left _ (List.mem_of_getElem? (i := 1) rfl)))
  have q4 : (Cond.methodLink RX0 30 arraycopyName).before _ s = true := hts _ (List.mem_cons_of_mem _ (List.mem_append_left _ (List.mem_of_getElem? (i := 2) rfl)))
  have q5 : (Cond.native arraycopyName).before _ s = true := hts _ (List.mem_cons_of_mem _ (List.mem_append_left _ (List.mem_of_getElem? (i := 3) rfl)))
  have q6 : (Cond.static arraycopyName).before _ s = true := hts _ (List.mem_cons_of_mem _ (List.mem_append_left _ (List.mem_of_getElem? (i := 4) rfl)))
  have q7 : (Cond.initialized "java/lang/System").before _ s = true := hts _ (List.mem_cons_of_mem _ (List.mem_append_left _ (List.mem_of_getElem? (i := 5) rfl)))
  have q8 : (Cond.fieldLink RX0 15 "RollupStore$Points" "values" "[I").before _ s = true := hts _ (List.mem_cons_of_mem _ (List.mem_append_left _ (List.mem_of_getElem? (i := 6) rfl)))
  refine lv_iload_n hx hb dX0_remove_0 rfl (lv_at hl 1 rfl) ?_
  refine lv_if_lt (tgt := 19) hx hb dX0_remove_1 (by decide) (fun c1 => ?_) (fun c1 => ?_)
  · replace h := h.1 c1
    exact (xe_v hx hb hr hlocks hbase hh hK hX hS h (Nat.le_of_ble_eq_true rfl) (Nat.le_of_ble_eq_true rfl) dX0_remove_19)
  · replace h := h.2 c1
    refine lv_iload_n hx hb dX0_remove_4 rfl (lv_at hl 2 rfl) ?_
    refine lv_iconst (v := 1) hx hb dX0_remove_5 (by decide) ?_
    refine lv_icmp_lt (tgt := 19) hx hb dX0_remove_6 (by decide) (fun c2 => ?_) (fun c2 => ?_)
    · replace h := h.1 c2
      exact (xe_v hx hb hr hlocks hbase hh hK hX hS h (Nat.le_of_ble_eq_true rfl) (Nat.le_of_ble_eq_true rfl) dX0_remove_19)
    · replace h := h.2 c2
      refine lv_iload_n hx hb dX0_remove_9 rfl (lv_at hl 2 rfl) ?_
      refine lv_aload_n hx hb dX0_remove_10 rfl (lv_at hl 0 rfl) ?_
      obtain ⟨g3, h⟩ := h
      refine xr_getI (ci := 0) (C := RX0) (T := TX0) (N := 3) hx hb hL0 hown hK hh g3 (by decide) rfl 2 2 rfl rfl (by decide) (by decide) q2 (fun _ h9 => h9) dX0_remove_11 ?_
      refine lv_iload_n hx hb dX0_remove_14 rfl (lv_at hl 1 rfl) ?_
      refine lv_isub hx hb dX0_remove_15 ?_
      refine lv_icmp_le (tgt := 20) hx hb dX0_remove_16 (by decide) (fun c4 => ?_) (fun c4 => ?_)
      · replace h := h.1 c4
        refine lv_aload_n hx hb dX0_remove_20 rfl (lv_at hl 0 rfl) ?_
        obtain ⟨g5, h⟩ := h
        obtain ⟨b6, eb6, h⟩ := h
        refine xr_getR (ci := 0) (C := RX0) (T := TX0) (N := 3) hx hb hL0 hown hK hh g5 (by decide) rfl 0 0 rfl rfl (by decide) (by decide) q3 (fun _ h9 => h9) eb6 dX0_remove_21 ?_
        refine lv_iload_n hx hb dX0_remove_24 rfl (lv_at hl 1 rfl) ?_
        refine lv_iload_n hx hb dX0_remove_25 rfl (lv_at hl 2 rfl) ?_
        refine lv_iadd hx hb dX0_remove_26 ?_
        refine lv_aload_n hx hb dX0_remove_27 rfl (lv_at hl 0 rfl) ?_
        obtain ⟨g7, h⟩ := h
        obtain ⟨b8, eb8, h⟩ := h
        refine xr_getR (ci := 0) (C := RX0) (T := TX0) (N := 3) hx hb hL0 hown hK hh g7 (by decide) rfl 0 0 rfl rfl (by decide) (by decide) q3 (fun _ h9 => h9) eb8 dX0_remove_28 ?_
        refine lv_iload_n hx hb dX0_remove_31 rfl (lv_at hl 1 rfl) ?_
        refine lv_aload_n hx hb dX0_remove_32 rfl (lv_at hl 0 rfl) ?_
        obtain ⟨g9, h⟩ := h
        refine xr_getI (ci := 0) (C := RX0) (T := TX0) (N := 3) hx hb hL0 hown hK hh g9 (by decide) rfl 2 2 rfl rfl (by decide) (by decide) q2 (fun _ h9 => h9) dX0_remove_33 ?_
        refine lv_iload_n hx hb dX0_remove_36 rfl (lv_at hl 1 rfl) ?_
        refine lv_isub hx hb dX0_remove_37 ?_
        refine lv_iload_n hx hb dX0_remove_38 rfl (lv_at hl 2 rfl) ?_
        refine lv_isub hx hb dX0_remove_39 ?_
        obtain ⟨g10, h⟩ := h
        obtain ⟨g11, h⟩ := h
        obtain ⟨g12, h⟩ := h
        obtain ⟨g13, h⟩ := h
        obtain ⟨g14, h⟩ := h
        obtain ⟨g15, h⟩ := h
        obtain ⟨g16, h⟩ := h
        refine xr_copy hx hb (hml.trans hl.1.symm) hown q4 q5 q6 q7 hK hh hS g10 g11 g12 g13 g14 g15 g16 (Nat.le_of_ble_eq_true rfl) (Nat.le_of_ble_eq_true rfl) dX0_remove_40 (fun H locs hh hS => ?_)
        obtain ⟨m17, em17⟩ : ∃ z : MM, z = sAI m0 b8 (va_cpy (mAI m0 b6) (mAI m0 b8) (p1 + p2).toNatClampNeg p1.toNatClampNeg (((mI m0 2 a0) - p1) - p2).toNatClampNeg) := ⟨_, rfl⟩
        rw [← em17] at hh
        replace h := h m17 em17
        refine lv_aload_n hx hb dX0_remove_43 rfl (lv_at hl 0 rfl) ?_
        obtain ⟨g18, h⟩ := h
        obtain ⟨b19, eb19, h⟩ := h
        refine xr_getR (ci := 0) (C := RX0) (T := TX0) (N := 3) hx hb hL0 hown hK hh g18 (by decide) rfl 1 1 rfl rfl (by decide) (by decide) q8 (fun _ h9 => h9) eb19 dX0_remove_44 ?_
        refine lv_iload_n hx hb dX0_remove_47 rfl (lv_at hl 1 rfl) ?_
        refine lv_iload_n hx hb dX0_remove_48 rfl (lv_at hl 2 rfl) ?_
        refine lv_iadd hx hb dX0_remove_49 ?_
        refine lv_aload_n hx hb dX0_remove_50 rfl (lv_at hl 0 rfl) ?_
        obtain ⟨g20, h⟩ := h
        obtain ⟨b21, eb21, h⟩ := h
        refine xr_getR (ci := 0) (C := RX0) (T := TX0) (N := 3) hx hb hL0 hown hK hh g20 (by decide) rfl 1 1 rfl rfl (by decide) (by decide) q8 (fun _ h9 => h9) eb21 dX0_remove_51 ?_
        refine lv_iload_n hx hb dX0_remove_54 rfl (lv_at hl 1 rfl) ?_
        refine lv_aload_n hx hb dX0_remove_55 rfl (lv_at hl 0 rfl) ?_
        obtain ⟨g22, h⟩ := h
        refine xr_getI (ci := 0) (C := RX0) (T := TX0) (N := 3) hx hb hL0 hown hK hh g22 (by decide) rfl 2 2 rfl rfl (by decide) (by decide) q2 (fun _ h9 => h9) dX0_remove_56 ?_
        refine lv_iload_n hx hb dX0_remove_59 rfl (lv_at hl 1 rfl) ?_
        refine lv_isub hx hb dX0_remove_60 ?_
        refine lv_iload_n hx hb dX0_remove_61 rfl (lv_at hl 2 rfl) ?_
        refine lv_isub hx hb dX0_remove_62 ?_
        obtain ⟨g23, h⟩ := h
        obtain ⟨g24, h⟩ := h
        obtain ⟨g25, h⟩ := h
        obtain ⟨g26, h⟩ := h
        obtain ⟨g27, h⟩ := h
        obtain ⟨g28, h⟩ := h
        obtain ⟨g29, h⟩ := h
        refine xr_copy hx hb (hml.trans hl.1.symm) hown q4 q5 q6 q7 hK hh hS g23 g24 g25 g26 g27 g28 g29 (Nat.le_of_ble_eq_true rfl) (Nat.le_of_ble_eq_true rfl) dX0_remove_63 (fun H locs hh hS => ?_)
        obtain ⟨m30, em30⟩ : ∃ z : MM, z = sAI m17 b21 (va_cpy (mAI m17 b19) (mAI m17 b21) (p1 + p2).toNatClampNeg p1.toNatClampNeg (((mI m17 2 a0) - p1) - p2).toNatClampNeg) := ⟨_, rfl⟩
        rw [← em30] at hh
        replace h := h m30 em30
        refine lv_aload_n hx hb dX0_remove_66 rfl (lv_at hl 0 rfl) ?_
        refine lv_dup hx hb dX0_remove_67 rfl ?_
        obtain ⟨g31, h⟩ := h
        refine xr_getI (ci := 0) (C := RX0) (T := TX0) (N := 3) hx hb hL0 hown hK hh g31 (by decide) rfl 2 2 rfl rfl (by decide) (by decide) q2 (fun _ h9 => h9) dX0_remove_68 ?_
        refine lv_iload_n hx hb dX0_remove_71 rfl (lv_at hl 2 rfl) ?_
        refine lv_isub hx hb dX0_remove_72 ?_
        obtain ⟨g32, h⟩ := h
        refine xr_putI (ci := 0) (C := RX0) (T := TX0) (N := 3) hx hb hL0 hown hK hh g32 (by decide) rfl 2 2 rfl rfl (by decide) (by decide) q2 (fun _ h9 => h9) tyX0 tyX0_ok nmX0 rfl rfl rfl hS dX0_remove_73 (fun H locs hh hS => ?_)
        obtain ⟨m33, em33⟩ : ∃ z : MM, z = sI m30 2 a0 ((mI m30 2 a0) - p2) := ⟨_, rfl⟩
        rw [← em33] at hh
        replace h := h m33 em33
        exact (xe_v hx hb hr hlocks hbase hh hK hX hS h (Nat.le_of_ble_eq_true rfl) (Nat.le_of_ble_eq_true rfl) dX0_remove_76)
      · replace h := h.2 c4
        exact (xe_v hx hb hr hlocks hbase hh hK hX hS h (Nat.le_of_ble_eq_true rfl) (Nat.le_of_ble_eq_true rfl) dX0_remove_19)

set_option maxHeartbeats 4000000 in
set_option maxRecDepth 100000 in
theorem mt_X0_expire (l : Launch) (G : GG) (base : Nat) {a0 : Nat} {p1 : Int32} {m0 : MM} {Q : Int32 → MM → Prop} (h : wp_X0_expire a0 p1 m0 Q) : Met l yX0_expire wsX0_expire ({ frames := 2, cells := 0, slots := 0, locals := 92 }) (va_Pc [.ref a0, .int p1] (SP G base m0)) (va_Qi Q (HB G base) (xA base)) 0 0 (xA base) := by
  refine Met.ofW (cc := cX0_expire) (maxL := 3) (ret := (some .int)) (by decide) rfl ?_
  intro p e s m args below meth c s₁ B hml hv
  obtain ⟨rfl, hbase, hh, hK, hX⟩ := hv
  have C0 : BC p s m _ meth c G base RX0 cX0_expire 3 (some .int) wsX0_expire := ⟨B.exec, B.bytes, B.returns, hml, findClass_of_methodNamed B.named, atoms_spec (ws := wsX0_expire) B.pre, B.notSynchronized, hK, hbase, hX⟩
  obtain ⟨hx, hb, hr, -, hown, hts, hlocks, -, -, -⟩ := id C0
  have hS : va_S (xA base) s.heap s.heap [] := va_S.rf
  have hl := lv_entry ([.ref a0, .int p1]) (n := 3) (Nat.le_of_ble_eq_true rfl)
  rw [lg_entry_eq]
  generalize (lg_sl ([.ref a0, .int p1]) ++ List.replicate (3 - (lg_sl ([.ref a0, .int p1])).length) Slot.unset).toArray = ls at hl ⊢
  have hl : lv_has ls 3 [(0, .ref a0), (1, .int p1)] := hl
  unfold wp_X0_expire at h
  refine lv_aload_n hx hb dX0_expire_0 rfl (lv_at hl 0 rfl) ?_
  refine lv_iload_n hx hb dX0_expire_1 rfl (lv_at hl 1 rfl) ?_
  obtain ⟨g1, h⟩ := h
  refine xc_i (va_runV (As := [.int p1]) (rest := []) ⟨hx, hb, hml, hown, hts⟩ (mt_X0_placeFrom l G base h) (cwV 1 hts gX0_expire_X0_placeFrom rfl rfl rfl (by decide +kernel) ⟨Nat.le_of_ble_eq_true rfl, Nat.le_of_ble_eq_true rfl⟩) (xp_V hbase hh hK hX hS (ci := 0) g1 (by decide) rfl) rfl rfl hl.1 rfl (lv_room (Nat.le_of_ble_eq_true rfl)) dX0_expire_2 ⟨Nat.le_of_ble_eq_true rfl, Nat.le_of_ble_eq_true rfl⟩) hS (fun r2 m3 H locs h hh hS => ?_)
  refine lv_istore_n (lv' := [(2, .int r2), (0, .ref a0), (1, .int p1)]) hx hb dX0_expire_5 rfl hl (by decide) rfl (fun ls hl => ?_)
  refine lv_aload_n hx hb dX0_expire_6 rfl (lv_at hl 1 rfl) ?_
  refine lv_iconst (v := 0) hx hb dX0_expire_7 (by decide) ?_
  refine lv_iload_n hx hb dX0_expire_8 rfl (lv_at hl 0 rfl) ?_
  obtain ⟨g4, h⟩ := h
  refine xc_v (va_runV (As := [.int (0 : Int32), .int r2]) (rest := []) ⟨hx, hb, hml, hown, hts⟩ (mt_X0_remove l G base h) (cwV 2 hts gX0_expire_X0_remove rfl rfl rfl (by decide +kernel) ⟨Nat.le_of_ble_eq_true rfl, Nat.le_of_ble_eq_true rfl⟩) (xp_V hbase hh hK hX hS (ci := 0) g4 (by decide) rfl) rfl rfl hl.1 rfl (lv_room (Nat.le_of_ble_eq_true rfl)) dX0_expire_9 ⟨Nat.le_of_ble_eq_true rfl, Nat.le_of_ble_eq_true rfl⟩) hS (fun m6 H locs h hh hS => ?_)
  refine lv_iload_n hx hb dX0_expire_12 rfl (lv_at hl 0 rfl) ?_
  exact (xe_i hx hb hr hlocks hbase hh hK hX hS h (Nat.le_of_ble_eq_true rfl) (Nat.le_of_ble_eq_true rfl) dX0_expire_13)

set_option maxHeartbeats 4000000 in
set_option maxRecDepth 100000 in
theorem bk_X2_remove_24 {p : Program} {l : Launch} {e : Env} {s : State} {m : MethodId} {args : Array Value} {below : List Frame} {meth : Method} {c : Code} {G : GG} {base : Nat} (C0 : BC p s m args meth c G base RX2 cX2_remove 5 none wsX2_remove) {Q : MM → Prop} : ∀ (n : Nat) (l0 : Nat) (l2 : Int32) (l3 : Int32) (m0 : MM) (H : Heap) (locs : List Loc) (ls : Array Slot), wp_X2_remove_24 Q n l0 l2 l3 m0 → hp G (xA base) m0 H → va_S (xA base) s.heap H locs → lv_has ls 5 [(0, .ref l0), (2, .int l2), (3, .int l3)] → W p l e ({ frames := 0, cells := 0, slots := 0, locals := 8 } : Room) s m args below meth c H locs 0 0 (MQ below (va_Qv Q (HB G base) (xA base)) args s 0 0 (xA base)) (F0 m 24 ls []) := by
  obtain ⟨hx, hb, hr, hml, hown, hts, hlocks, hK, hbase, hX⟩ := id C0
  intro n
  induction n with
  | zero =>
    intro l0 l2 l3 m0 H locs ls h
    unfold wp_X2_remove_24 at h
    exact h.elim
  | succ n ih =>
    intro l0 l2 l3 m0 H locs ls h hh hS hl
    unfold wp_X2_remove_24 at h
    have hL2 : ∀ w ∈ u_ws RX2 TX2 3, w.before _ s = true := fun w h9 => hts w (List.mem_cons_of_mem _ (List.mem_append_right _ (h9)))
    have q2 : (Cond.fieldLink RX2 28 "RollupStore$Rollups" "kept" "I").before _ s = true := hts _ (List.mem_cons_of_mem _ (List.mem_append_left _ (List.mem_of_getElem? (i := 0) rfl)))
    have q3 : (Cond.fieldLink RX2 11 "RollupStore$Rollups" "rows" "[LRollupStore$Rollup;").before _ s = true := hts _ (List.mem_cons_of_mem _ (List.mem_append_left _ (List.mem_of_getElem? (i := 1) rfl)))
    refine lv_iload_n hx hb dX2_remove_24 rfl (lv_at hl 2 rfl) ?_
    refine lv_aload_n hx hb dX2_remove_25 rfl (lv_at hl 0 rfl) ?_
    obtain ⟨g6, h⟩ := h
    refine xr_getI (ci := 2) (C := RX2) (T := TX2) (N := 3) hx hb hL2 hown hK hh g6 (by decide) rfl 2 42 rfl rfl (by decide) (by decide) q2 (fun _ h9 => h9) dX2_remove_26 ?_
    refine lv_icmp_ge (tgt := 70) hx hb dX2_remove_29 (by decide) (fun c7 => ?_) (fun c7 => ?_)
    · replace h := h.1 c7
      refine lv_aload_n hx hb dX2_remove_70 rfl (lv_at hl 0 rfl) ?_
      refine lv_dup hx hb dX2_remove_71 rfl ?_
      obtain ⟨g8, h⟩ := h
      refine xr_getI (ci := 2) (C := RX2) (T := TX2) (N := 3) hx hb hL2 hown hK hh g8 (by decide) rfl 2 42 rfl rfl (by decide) (by decide) q2 (fun _ h9 => h9) dX2_remove_72 ?_
      refine lv_iload_n hx hb dX2_remove_75 rfl (lv_at hl 1 rfl) ?_
      refine lv_isub hx hb dX2_remove_76 ?_
      obtain ⟨g9, h⟩ := h
      refine xr_putI (ci := 2) (C := RX2) (T := TX2) (N := 3) hx hb hL2 hown hK hh g9 (by decide) rfl 2 42 rfl rfl (by decide) (by decide) q2 (fun _ h9 => h9) tyX2 tyX2_ok nmX2 rfl rfl rfl hS dX2_remove_77 (fun H locs hh hS => ?_)
      obtain ⟨m10, em10⟩ : ∃ z : MM, z = sI m0 42 l0 ((mI m0 42 l0) - l2) := ⟨_, rfl⟩
      rw [← em10] at hh
      replace h := h m10 em10
      exact (xe_v hx hb hr hlocks hbase hh hK hX hS h (Nat.le_of_ble_eq_true rfl) (Nat.le_of_ble_eq_true rfl) dX2_remove_80)
    · replace h := h.2 c7
      refine lv_aload_n hx hb dX2_remove_32 rfl (lv_at hl 0 rfl) ?_
      obtain ⟨g11, h⟩ := h
      obtain ⟨b12, eb12, h⟩ := h
      refine xr_getR (ci := 2) (C := RX2) (T := TX2) (N := 3) hx hb hL2 hown hK hh g11 (by decide) rfl 1 41 rfl rfl (by decide) (by decide) q3 (fun _ h9 => h9) eb12 dX2_remove_33 ?_
      refine lv_iload_n hx hb dX2_remove_36 rfl (lv_at hl 2 rfl) ?_
      refine lv_iload_n hx hb dX2_remove_37 rfl (lv_at hl 1 rfl) ?_
      refine lv_isub hx hb dX2_remove_38 ?_
      obtain ⟨g13, h⟩ := h
      obtain ⟨g14, h⟩ := h
      refine xr_qald hx hb hK hh g13 g14 dX2_remove_39 (fun o15 eo15 => ?_)
      replace h := h o15 eo15
      obtain ⟨b16, eb16, h⟩ := h
      rw [eb16]
      refine W.eq (g2 := F0 m 40 ls [.ref b16]) rfl ?_
      refine lv_astore (lv' := [(4, .ref b16), (0, .ref l0), (2, .int l2), (3, .int l3)]) hx hb dX2_remove_40 hl (by decide) rfl (fun ls hl => ?_)
      refine lv_aload_n hx hb dX2_remove_42 rfl (lv_at hl 1 rfl) ?_
      obtain ⟨g17, h⟩ := h
      obtain ⟨b18, eb18, h⟩ := h
      refine xr_getR (ci := 2) (C := RX2) (T := TX2) (N := 3) hx hb hL2 hown hK hh g17 (by decide) rfl 1 41 rfl rfl (by decide) (by decide) q3 (fun _ h9 => h9) eb18 dX2_remove_43 ?_
      refine lv_iload_n hx hb dX2_remove_46 rfl (lv_at hl 3 rfl) ?_
      refine lv_iload_n hx hb dX2_remove_47 rfl (lv_at hl 2 rfl) ?_
      refine lv_isub hx hb dX2_remove_48 ?_
      refine lv_aload_n hx hb dX2_remove_49 rfl (lv_at hl 1 rfl) ?_
      obtain ⟨g19, h⟩ := h
      obtain ⟨b20, eb20, h⟩ := h
      refine xr_getR (ci := 2) (C := RX2) (T := TX2) (N := 3) hx hb hL2 hown hK hh g19 (by decide) rfl 1 41 rfl rfl (by decide) (by decide) q3 (fun _ h9 => h9) eb20 dX2_remove_50 ?_
      refine lv_iload_n hx hb dX2_remove_53 rfl (lv_at hl 3 rfl) ?_
      obtain ⟨g21, h⟩ := h
      obtain ⟨g22, h⟩ := h
      refine xr_qald hx hb hK hh g21 g22 dX2_remove_54 (fun o23 eo23 => ?_)
      replace h := h o23 eo23
      obtain ⟨b24, eb24, h⟩ := h
      rw [eb24]
      refine W.eq (g2 := F0 m 55 ls [.ref b24, .int (l3 - l2), .ref b18]) rfl ?_
      obtain ⟨g25, h⟩ := h
      obtain ⟨g26, h⟩ := h
      obtain ⟨g27, h⟩ := h
      refine xr_qast hx hb hK hh g25 hS g27 g26 dX2_remove_55 (fun H locs hh hS => ?_)
      obtain ⟨m28, em28⟩ : ∃ z : MM, z = sAR m0 b18 (va_up (mAR m0 b18) (l3 - l2).toNatClampNeg (some b24)) := ⟨_, rfl⟩
      rw [← em28] at hh
      replace h := h m28 em28
      refine lv_aload_n hx hb dX2_remove_56 rfl (lv_at hl 1 rfl) ?_
      obtain ⟨g29, h⟩ := h
      obtain ⟨b30, eb30, h⟩ := h
      refine xr_getR (ci := 2) (C := RX2) (T := TX2) (N := 3) hx hb hL2 hown hK hh g29 (by decide) rfl 1 41 rfl rfl (by decide) (by decide) q3 (fun _ h9 => h9) eb30 dX2_remove_57 ?_
      refine lv_iload_n hx hb dX2_remove_60 rfl (lv_at hl 3 rfl) ?_
      refine lv_aload hx hb dX2_remove_61 (lv_at hl 0 rfl) ?_
      obtain ⟨g31, h⟩ := h
      obtain ⟨g32, h⟩ := h
      obtain ⟨g33, h⟩ := h
      refine xr_qast hx hb hK hh g31 hS g33 g32 dX2_remove_63 (fun H locs hh hS => ?_)
      obtain ⟨m34, em34⟩ : ∃ z : MM, z = sAR m28 b30 (va_up (mAR m28 b30) l3.toNatClampNeg (some b16)) := ⟨_, rfl⟩
      rw [← em34] at hh
      replace h := h m34 em34
      obtain ⟨x35, ex35⟩ : ∃ y : Int32, y = l3 + 1 := ⟨_, rfl⟩
      replace h := h x35 ex35
      refine lv_iinc (v := x35) (lv' := [(3, .int x35), (4, .ref b16), (0, .ref l0), (2, .int l2)]) hx hb dX2_remove_64 hl (k := 3) rfl (by rw [ex35]; rfl) (by decide) rfl (fun ls hl => ?_)
      refine lv_goto (tgt := 24) hx hb dX2_remove_67 (by decide) ?_
      exact ih _ _ _ _ _ _ _ h hh hS (lv_sub hl [2, 3, 0] rfl)

set_option maxHeartbeats 4000000 in
set_option maxRecDepth 100000 in
theorem mt_X2_remove (l : Launch) (G : GG) (base : Nat) {a0 : Nat} {p1 : Int32} {p2 : Int32} {m0 : MM} {Q : MM → Prop} (h : wp_X2_remove a0 p1 p2 m0 Q) : Met l yX2_remove wsX2_remove ({ frames := 0, cells := 0, slots := 0, locals := 8 }) (va_Pc [.ref a0, .int p1, .int p2] (SP G base m0)) (va_Qv Q (HB G base) (xA base)) 0 0 (xA base) := by
  refine Met.ofW (cc := cX2_remove) (maxL := 5) (ret := none) (by decide) rfl ?_
  intro p e s m args below meth c s₁ B hml hv
  obtain ⟨rfl, hbase, hh, hK, hX⟩ := hv
  have C0 : BC p s m _ meth c G base RX2 cX2_remove 5 none wsX2_remove := ⟨B.exec, B.bytes, B.returns, hml, findClass_of_methodNamed B.named, atoms_spec (ws := wsX2_remove) B.pre, B.notSynchronized, hK, hbase, hX⟩
  obtain ⟨hx, hb, hr, -, hown, hts, hlocks, -, -, -⟩ := id C0
  have hS : va_S (xA base) s.heap s.heap [] := va_S.rf
  have hl := lv_entry ([.ref a0, .int p1, .int p2]) (n := 5) (Nat.le_of_ble_eq_true rfl)
  rw [lg_entry_eq]
  generalize (lg_sl ([.ref a0, .int p1, .int p2]) ++ List.replicate (5 - (lg_sl ([.ref a0, .int p1, .int p2])).length) Slot.unset).toArray = ls at hl ⊢
  have hl : lv_has ls 5 [(0, .ref a0), (1, .int p1), (2, .int p2)] := hl
  unfold wp_X2_remove at h
  have hL2 : ∀ w ∈ u_ws RX2 TX2 3, w.before _ s = true := fun w h9 => hts w (List.mem_cons_of_mem _ (List.mem_append_right _ (h9)))
  have q2 : (Cond.fieldLink RX2 28 "RollupStore$Rollups" "kept" "I").before _ s = true := hts _ (List.mem_cons_of_mem _ (List.mem_append_left _ (List.mem_of_getElem? (i := 0) rfl)))
  refine lv_iload_n hx hb dX2_remove_0 rfl (lv_at hl 1 rfl) ?_
  refine lv_if_lt (tgt := 19) hx hb dX2_remove_1 (by decide) (fun c1 => ?_) (fun c1 => ?_)
  · replace h := h.1 c1
    exact (xe_v hx hb hr hlocks hbase hh hK hX hS h (Nat.le_of_ble_eq_true rfl) (Nat.le_of_ble_eq_true rfl) dX2_remove_19)
  · replace h := h.2 c1
    refine lv_iload_n hx hb dX2_remove_4 rfl (lv_at hl 2 rfl) ?_
    refine lv_iconst (v := 1) hx hb dX2_remove_5 (by decide) ?_
    refine lv_icmp_lt (tgt := 19) hx hb dX2_remove_6 (by decide) (fun c2 => ?_) (fun c2 => ?_)
    · replace h := h.1 c2
      exact (xe_v hx hb hr hlocks hbase hh hK hX hS h (Nat.le_of_ble_eq_true rfl) (Nat.le_of_ble_eq_true rfl) dX2_remove_19)
    · replace h := h.2 c2
      refine lv_iload_n hx hb dX2_remove_9 rfl (lv_at hl 2 rfl) ?_
      refine lv_aload_n hx hb dX2_remove_10 rfl (lv_at hl 0 rfl) ?_
      obtain ⟨g3, h⟩ := h
      refine xr_getI (ci := 2) (C := RX2) (T := TX2) (N := 3) hx hb hL2 hown hK hh g3 (by decide) rfl 2 42 rfl rfl (by decide) (by decide) q2 (fun _ h9 => h9) dX2_remove_11 ?_
      refine lv_iload_n hx hb dX2_remove_14 rfl (lv_at hl 1 rfl) ?_
      refine lv_isub hx hb dX2_remove_15 ?_
      refine lv_icmp_le (tgt := 20) hx hb dX2_remove_16 (by decide) (fun c4 => ?_) (fun c4 => ?_)
      · replace h := h.1 c4
        refine lv_iload_n hx hb dX2_remove_20 rfl (lv_at hl 1 rfl) ?_
        refine lv_iload_n hx hb dX2_remove_21 rfl (lv_at hl 2 rfl) ?_
        refine lv_iadd hx hb dX2_remove_22 ?_
        refine lv_topi (fun x5 ex5 => ?_)
        replace h := h x5 ex5
        refine lv_istore_n (lv' := [(3, .int x5), (0, .ref a0), (1, .int p1), (2, .int p2)]) hx hb dX2_remove_23 rfl hl (by decide) rfl (fun ls hl => ?_)
        obtain ⟨n9, h⟩ := h
        exact bk_X2_remove_24 C0  n9 _ _ _ _ _ _ _ h hh hS (lv_sub hl [1, 3, 0] rfl)
      · replace h := h.2 c4
        exact (xe_v hx hb hr hlocks hbase hh hK hX hS h (Nat.le_of_ble_eq_true rfl) (Nat.le_of_ble_eq_true rfl) dX2_remove_19)

set_option maxHeartbeats 4000000 in
set_option maxRecDepth 100000 in
theorem mt_X2_expire (l : Launch) (G : GG) (base : Nat) {a0 : Nat} {p1 : Int32} {m0 : MM} {Q : Int32 → MM → Prop} (h : wp_X2_expire a0 p1 m0 Q) : Met l yX2_expire wsX2_expire ({ frames := 2, cells := 0, slots := 0, locals := 53 }) (va_Pc [.ref a0, .int p1] (SP G base m0)) (va_Qi Q (HB G base) (xA base)) 0 0 (xA base) := by
  refine Met.ofW (cc := cX2_expire) (maxL := 3) (ret := (some .int)) (by decide) rfl ?_
  intro p e s m args below meth c s₁ B hml hv
  obtain ⟨rfl, hbase, hh, hK, hX⟩ := hv
  have C0 : BC p s m _ meth c G base RX2 cX2_expire 3 (some .int) wsX2_expire := ⟨B.exec, B.bytes, B.returns, hml, findClass_of_methodNamed B.named, atoms_spec (ws := wsX2_expire) B.pre, B.notSynchronized, hK, hbase, hX⟩
  obtain ⟨hx, hb, hr, -, hown, hts, hlocks, -, -, -⟩ := id C0
  have hS : va_S (xA base) s.heap s.heap [] := va_S.rf
  have hl := lv_entry ([.ref a0, .int p1]) (n := 3) (Nat.le_of_ble_eq_true rfl)
  rw [lg_entry_eq]
  generalize (lg_sl ([.ref a0, .int p1]) ++ List.replicate (3 - (lg_sl ([.ref a0, .int p1])).length) Slot.unset).toArray = ls at hl ⊢
  have hl : lv_has ls 3 [(0, .ref a0), (1, .int p1)] := hl
  unfold wp_X2_expire at h
  have hL2 : ∀ w ∈ u_ws RX2 TX2 3, w.before _ s = true := fun w h9 => hts w (List.mem_cons_of_mem _ (List.mem_append_left _ (List.mem_append_right _ (h9))))
  have q2 : (Cond.fieldLink RX2 17 "RollupStore$Rollups" "length" "I").before _ s = true := hts _ (List.mem_cons_of_mem _ (List.mem_append_left _ (List.mem_append_left _ (List.mem_of_getElem? (i := 0) rfl))))
  refine lv_aload_n hx hb dX2_expire_0 rfl (lv_at hl 0 rfl) ?_
  refine lv_iload_n hx hb dX2_expire_1 rfl (lv_at hl 1 rfl) ?_
  refine lv_aload_n hx hb dX2_expire_2 rfl (lv_at hl 0 rfl) ?_
  obtain ⟨g1, h⟩ := h
  refine xr_getI (ci := 2) (C := RX2) (T := TX2) (N := 3) hx hb hL2 hown hK hh g1 (by decide) rfl 0 40 rfl rfl (by decide) (by decide) q2 (fun _ h9 => h9) dX2_expire_3 ?_
  refine lv_isub hx hb dX2_expire_6 ?_
  refine lv_iconst (v := 1) hx hb dX2_expire_7 (by decide) ?_
  refine lv_iadd hx hb dX2_expire_8 ?_
  obtain ⟨g2, h⟩ := h
  refine xc_i (va_runV (As := [.int ((p1 - (mI m0 40 a0)) + (1 : Int32))]) (rest := []) ⟨hx, hb, hml, hown, hts⟩ (mt_X2_placeFrom l G base h) (cwV 1 hts gX2_expire_X2_placeFrom rfl rfl rfl (by decide +kernel) ⟨Nat.le_of_ble_eq_true rfl, Nat.le_of_ble_eq_true rfl⟩) (xp_V hbase hh hK hX hS (ci := 2) g2 (by decide) rfl) rfl rfl hl.1 rfl (lv_room (Nat.le_of_ble_eq_true rfl)) dX2_expire_9 ⟨Nat.le_of_ble_eq_true rfl, Nat.le_of_ble_eq_true rfl⟩) hS (fun r3 m4 H locs h hh hS => ?_)
  refine lv_istore_n (lv' := [(2, .int r3), (0, .ref a0), (1, .int p1)]) hx hb dX2_expire_12 rfl hl (by decide) rfl (fun ls hl => ?_)
  refine lv_aload_n hx hb dX2_expire_13 rfl (lv_at hl 1 rfl) ?_
  refine lv_iconst (v := 0) hx hb dX2_expire_14 (by decide) ?_
  refine lv_iload_n hx hb dX2_expire_15 rfl (lv_at hl 0 rfl) ?_
  obtain ⟨g5, h⟩ := h
  refine xc_v (va_runV (As := [.int (0 : Int32), .int r3]) (rest := []) ⟨hx, hb, hml, hown, hts⟩ (mt_X2_remove l G base h) (cwV 2 hts gX2_expire_X2_remove rfl rfl rfl (by decide +kernel) ⟨Nat.le_of_ble_eq_true rfl, Nat.le_of_ble_eq_true rfl⟩) (xp_V hbase hh hK hX hS (ci := 2) g5 (by decide) rfl) rfl rfl hl.1 rfl (lv_room (Nat.le_of_ble_eq_true rfl)) dX2_expire_16 ⟨Nat.le_of_ble_eq_true rfl, Nat.le_of_ble_eq_true rfl⟩) hS (fun m7 H locs h hh hS => ?_)
  refine lv_iload_n hx hb dX2_expire_19 rfl (lv_at hl 0 rfl) ?_
  exact (xe_i hx hb hr hlocks hbase hh hK hX hS h (Nat.le_of_ble_eq_true rfl) (Nat.le_of_ble_eq_true rfl) dX2_expire_20)

set_option maxHeartbeats 4000000 in
set_option maxRecDepth 100000 in
theorem mt_X1_init (l : Launch) (G : GG) (base : Nat) {a0 : Nat} {m0 : MM} {Q : MM → Prop} (h : wp_X1_init a0 m0 Q) : Met l yX1_init wsX1_init ({ frames := 1, cells := 0, slots := 0, locals := 70 }) (va_Pc [.ref a0] (SP G base m0)) (va_Qv Q (HB G base) (xA base)) 0 0 (xA base) := by
  refine Met.ofW (cc := cX1_init) (maxL := 1) (ret := none) (by decide) rfl ?_
  intro p e s m args below meth c s₁ B hml hv
  obtain ⟨rfl, hbase, hh, hK, hX⟩ := hv
  have C0 : BC p s m _ meth c G base RX1 cX1_init 1 none wsX1_init := ⟨B.exec, B.bytes, B.returns, hml, findClass_of_methodNamed B.named, atoms_spec (ws := wsX1_init) B.pre, B.notSynchronized, hK, hbase, hX⟩
  obtain ⟨hx, hb, hr, -, hown, hts, hlocks, -, -, -⟩ := id C0
  have hin : meth.name = "<init>" := (name_of_methodNamed B.named B.method).1
  have hS : va_S (xA base) s.heap s.heap [] := va_S.rf
  have hl := lv_entry ([.ref a0]) (n := 1) (Nat.le_of_ble_eq_true rfl)
  rw [lg_entry_eq]
  generalize (lg_sl ([.ref a0]) ++ List.replicate (1 - (lg_sl ([.ref a0])).length) Slot.unset).toArray = ls at hl ⊢
  have hl : lv_has ls 1 [(0, .ref a0)] := hl
  unfold wp_X1_init at h
  have q1 : (Cond.methodLink RX1 1 objectInit).before _ s = true := hts _ (List.mem_cons_of_mem _ (List.mem_of_getElem? (i := 0) rfl))
  have q2 : (Cond.instanceMethod objectInit).before _ s = true := hts _ (List.mem_cons_of_mem _ (List.mem_of_getElem? (i := 1) rfl))
  have q3 : (Cond.code objectInit ⟨#[0xb1]⟩ 1 none).before _ s = true := hts _ (List.mem_cons_of_mem _ (List.mem_of_getElem? (i := 2) rfl))
  refine lv_aload_n hx hb dX1_init_0 rfl (lv_at hl 0 rfl) ?_
  refine W.objInit hx hb hown q1 q2 q3 rfl (by rw [hml]; exact hl.1) rfl dX1_init_1 (Nat.le_of_ble_eq_true rfl) (Nat.le_of_ble_eq_true rfl) ?_
  refine W.eq (g2 := F0 m 4 ls []) rfl ?_
  exact (xe_v hx hb hr hlocks hbase hh hK hX hS h (Nat.le_of_ble_eq_true rfl) (Nat.le_of_ble_eq_true rfl) dX1_init_4)

set_option maxHeartbeats 4000000 in
set_option maxRecDepth 100000 in
theorem mt_X0_init (l : Launch) (G : GG) (base : Nat) {a0 : Nat} {m0 : MM} {Q : MM → Prop} (h : wp_X0_init a0 m0 Q) : Met l yX0_init wsX0_init ({ frames := 1, cells := 2, slots := 200, locals := 70 }) (va_Pc [.ref a0] (SP G base m0)) (va_Qv Q (HB G base) (xA base)) 2 200 (xA base) := by
  refine Met.ofW (cc := cX0_init) (maxL := 1) (ret := none) (by decide) rfl ?_
  intro p e s m args below meth c s₁ B hml hv
  obtain ⟨rfl, hbase, hh, hK, hX⟩ := hv
  have C0 : BC p s m _ meth c G base RX0 cX0_init 1 none wsX0_init := ⟨B.exec, B.bytes, B.returns, hml, findClass_of_methodNamed B.named, atoms_spec (ws := wsX0_init) B.pre, B.notSynchronized, hK, hbase, hX⟩
  obtain ⟨hx, hb, hr, -, hown, hts, hlocks, -, -, -⟩ := id C0
  have hin : meth.name = "<init>" := (name_of_methodNamed B.named B.method).1
  have hS : va_S (xA base) s.heap s.heap [] := va_S.rf
  have hl := lv_entry ([.ref a0]) (n := 1) (Nat.le_of_ble_eq_true rfl)
  rw [lg_entry_eq]
  generalize (lg_sl ([.ref a0]) ++ List.replicate (1 - (lg_sl ([.ref a0])).length) Slot.unset).toArray = ls at hl ⊢
  have hl : lv_has ls 1 [(0, .ref a0)] := hl
  unfold wp_X0_init at h
  have q1 : (Cond.methodLink RX0 3 objectInit).before _ s = true := hts _ (List.mem_cons_of_mem _ (List.mem_append_left _ (List.mem_of_getElem? (i := 0) rfl)))
  have q2 : (Cond.instanceMethod objectInit).before _ s = true := hts _ (List.mem_cons_of_mem _ (List.mem_append_left _ (List.mem_of_getElem? (i := 1) rfl)))
  have q3 : (Cond.code objectInit ⟨#[0xb1]⟩ 1 none).before _ s = true := hts _ (List.mem_cons_of_mem _ (List.mem_append_left _ (List.mem_of_getElem? (i := 2) rfl)))
  have q4 : (Cond.arrayClass .int).before _ s = true := hts _ (List.mem_cons_of_mem _ (List.mem_append_left _ (List.mem_of_getElem? (i := 3) rfl)))
  have hL0 : ∀ w ∈ u_ws RX0 TX0 3, w.before _ s = true := fun w h9 => hts w (List.mem_cons_of_mem _ (List.mem_append_right _ (h9)))
  have q6 : (Cond.fieldLink RX0 9 "RollupStore$Points" "times" "[I").before _ s = true := hts _ (List.mem_cons_of_mem _ (List.mem_append_left _ (List.mem_of_getElem? (i := 4) rfl)))
  have q7 : (Cond.fieldLink RX0 15 "RollupStore$Points" "values" "[I").before _ s = true := hts _ (List.mem_cons_of_mem _ (List.mem_append_left _ (List.mem_of_getElem? (i := 5) rfl)))
  refine lv_aload_n hx hb dX0_init_0 rfl (lv_at hl 0 rfl) ?_
  refine W.objInit hx hb hown q1 q2 q3 rfl (by rw [hml]; exact hl.1) rfl dX0_init_1 (Nat.le_of_ble_eq_true rfl) (Nat.le_of_ble_eq_true rfl) ?_
  refine W.eq (g2 := F0 m 4 ls []) rfl ?_
  refine lv_aload_n hx hb dX0_init_4 rfl (lv_at hl 0 rfl) ?_
  refine lv_bipush (v := 100) hx hb dX0_init_5 (by decide) ?_
  refine xr_newi hx hb q4 hK hh hS hbase (n := 100) (N' := 100) (by decide) (by decide) (by decide) (Nat.le_of_ble_eq_true rfl) (Nat.le_of_ble_eq_true rfl) dX0_init_7 (fun a1 H ga1 gba1 hh hS => ?_)
  replace h := h a1 ga1
  obtain ⟨m2, em2⟩ : ∃ z : MM, z = nw m0 11 100 a1 := ⟨_, rfl⟩
  rw [← em2] at hh
  replace h := h m2 em2
  obtain ⟨g3, h⟩ := h
  refine xr_putRF (ci := 0) (C := RX0) (T := TX0) (N := 3) hx hb hL0 hown hK hh g3 (by decide) rfl 0 0 rfl rfl (by decide) (by decide) q6 (fun _ h9 => h9) tyX0 tyX0_ok nmX0 rfl hin rfl rfl rfl hS dX0_init_9 (fun H locs hh hS => ?_)
  obtain ⟨m4, em4⟩ : ∃ z : MM, z = sR m2 0 a0 (some a1) := ⟨_, rfl⟩
  rw [← em4] at hh
  replace h := h m4 em4
  refine lv_aload_n hx hb dX0_init_12 rfl (lv_at hl 0 rfl) ?_
  refine lv_bipush (v := 100) hx hb dX0_init_13 (by decide) ?_
  refine xr_newi hx hb q4 hK hh hS hbase (n := 100) (N' := 100) (by decide) (by decide) (by decide) (Nat.le_of_ble_eq_true rfl) (Nat.le_of_ble_eq_true rfl) dX0_init_15 (fun a5 H ga5 gba5 hh hS => ?_)
  replace h := h a5 ga5
  obtain ⟨m6, em6⟩ : ∃ z : MM, z = nw m4 11 100 a5 := ⟨_, rfl⟩
  rw [← em6] at hh
  replace h := h m6 em6
  obtain ⟨g7, h⟩ := h
  refine xr_putRF (ci := 0) (C := RX0) (T := TX0) (N := 3) hx hb hL0 hown hK hh g7 (by decide) rfl 1 1 rfl rfl (by decide) (by decide) q7 (fun _ h9 => h9) tyX0 tyX0_ok nmX0 rfl hin rfl rfl rfl hS dX0_init_17 (fun H locs hh hS => ?_)
  obtain ⟨m8, em8⟩ : ∃ z : MM, z = sR m6 1 a0 (some a5) := ⟨_, rfl⟩
  rw [← em8] at hh
  replace h := h m8 em8
  exact (xe_v hx hb hr hlocks hbase hh hK hX hS h (Nat.le_of_ble_eq_true rfl) (Nat.le_of_ble_eq_true rfl) dX0_init_20)

set_option maxHeartbeats 4000000 in
set_option maxRecDepth 100000 in
theorem mt_X2_init (l : Launch) (G : GG) (base : Nat) {a0 : Nat} {p1 : Int32} {m0 : MM} {Q : MM → Prop} (h : wp_X2_init a0 p1 m0 Q) : Met l yX2_init wsX2_init ({ frames := 1, cells := 1, slots := 8, locals := 70 }) (va_Pc [.ref a0, .int p1] (SP G base m0)) (va_Qv Q (HB G base) (xA base)) 1 8 (xA base) := by
  refine Met.ofW (cc := cX2_init) (maxL := 2) (ret := none) (by decide) rfl ?_
  intro p e s m args below meth c s₁ B hml hv
  obtain ⟨rfl, hbase, hh, hK, hX⟩ := hv
  have C0 : BC p s m _ meth c G base RX2 cX2_init 2 none wsX2_init := ⟨B.exec, B.bytes, B.returns, hml, findClass_of_methodNamed B.named, atoms_spec (ws := wsX2_init) B.pre, B.notSynchronized, hK, hbase, hX⟩
  obtain ⟨hx, hb, hr, -, hown, hts, hlocks, -, -, -⟩ := id C0
  have hin : meth.name = "<init>" := (name_of_methodNamed B.named B.method).1
  have hS : va_S (xA base) s.heap s.heap [] := va_S.rf
  have hl := lv_entry ([.ref a0, .int p1]) (n := 2) (Nat.le_of_ble_eq_true rfl)
  rw [lg_entry_eq]
  generalize (lg_sl ([.ref a0, .int p1]) ++ List.replicate (2 - (lg_sl ([.ref a0, .int p1])).length) Slot.unset).toArray = ls at hl ⊢
  have hl : lv_has ls 2 [(0, .ref a0), (1, .int p1)] := hl
  unfold wp_X2_init at h
  have q1 : (Cond.methodLink RX2 3 objectInit).before _ s = true := hts _ (List.mem_cons_of_mem _ (List.mem_append_left _ (List.mem_of_getElem? (i := 0) rfl)))
  have q2 : (Cond.instanceMethod objectInit).before _ s = true := hts _ (List.mem_cons_of_mem _ (List.mem_append_left _ (List.mem_of_getElem? (i := 1) rfl)))
  have q3 : (Cond.code objectInit ⟨#[0xb1]⟩ 1 none).before _ s = true := hts _ (List.mem_cons_of_mem _ (List.mem_append_left _ (List.mem_of_getElem? (i := 2) rfl)))
  have q4 : (Cond.classLink RX2 9 RX1).before _ s = true := hts _ (List.mem_cons_of_mem _ (List.mem_append_left _ (List.mem_of_getElem? (i := 3) rfl)))
  have hL2 : ∀ w ∈ u_ws RX2 TX2 3, w.before _ s = true := fun w h9 => hts w (List.mem_cons_of_mem _ (List.mem_append_right _ (h9)))
  have q6 : (Cond.fieldLink RX2 11 "RollupStore$Rollups" "rows" "[LRollupStore$Rollup;").before _ s = true := hts _ (List.mem_cons_of_mem _ (List.mem_append_left _ (List.mem_of_getElem? (i := 4) rfl)))
  have q7 : (Cond.fieldLink RX2 17 "RollupStore$Rollups" "length" "I").before _ s = true := hts _ (List.mem_cons_of_mem _ (List.mem_append_left _ (List.mem_of_getElem? (i := 5) rfl)))
  refine lv_aload_n hx hb dX2_init_0 rfl (lv_at hl 0 rfl) ?_
  refine W.objInit hx hb hown q1 q2 q3 rfl (by rw [hml]; exact hl.1) rfl dX2_init_1 (Nat.le_of_ble_eq_true rfl) (Nat.le_of_ble_eq_true rfl) ?_
  refine W.eq (g2 := F0 m 4 ls []) rfl ?_
  refine lv_aload_n hx hb dX2_init_4 rfl (lv_at hl 0 rfl) ?_
  refine lv_bipush (v := 8) hx hb dX2_init_5 (by decide) ?_
  refine xr_newq hx hb hown q4 hX.2.2.2.2.2.1 hK hh hS hbase (n := 8) (N' := 8) (by decide) (by decide) (by decide) (Nat.le_of_ble_eq_true rfl) (Nat.le_of_ble_eq_true rfl) dX2_init_7 (fun a1 H ga1 gba1 hh hS => ?_)
  replace h := h a1 ga1
  obtain ⟨m2, em2⟩ : ∃ z : MM, z = nw m0 14 8 a1 := ⟨_, rfl⟩
  rw [← em2] at hh
  replace h := h m2 em2
  obtain ⟨g3, h⟩ := h
  refine xr_putR (ci := 2) (C := RX2) (T := TX2) (N := 3) hx hb hL2 hown hK hh g3 (by decide) rfl 1 41 rfl rfl (by decide) (by decide) q6 (fun _ h9 => h9) tyX2 tyX2_ok nmX2 rfl rfl rfl hS dX2_init_10 (fun H locs hh hS => ?_)
  obtain ⟨m4, em4⟩ : ∃ z : MM, z = sR m2 41 a0 (some a1) := ⟨_, rfl⟩
  rw [← em4] at hh
  replace h := h m4 em4
  refine lv_aload_n hx hb dX2_init_13 rfl (lv_at hl 0 rfl) ?_
  refine lv_iload_n hx hb dX2_init_14 rfl (lv_at hl 1 rfl) ?_
  obtain ⟨g5, h⟩ := h
  refine xr_putIF (ci := 2) (C := RX2) (T := TX2) (N := 3) hx hb hL2 hown hK hh g5 (by decide) rfl 0 40 rfl rfl (by decide) (by decide) q7 (fun _ h9 => h9) tyX2 tyX2_ok nmX2 rfl hin rfl rfl rfl hS dX2_init_15 (fun H locs hh hS => ?_)
  obtain ⟨m6, em6⟩ : ∃ z : MM, z = sI m4 40 a0 p1 := ⟨_, rfl⟩
  rw [← em6] at hh
  replace h := h m6 em6
  exact (xe_v hx hb hr hlocks hbase hh hK hX hS h (Nat.le_of_ble_eq_true rfl) (Nat.le_of_ble_eq_true rfl) dX2_init_18)

set_option maxHeartbeats 4000000 in
set_option maxRecDepth 100000 in
theorem mt_X0_isAt (l : Launch) (G : GG) (base : Nat) {a0 : Nat} {p1 : Int32} {p2 : Int32} {m0 : MM} {Q : Int32 → MM → Prop} (h : wp_X0_isAt a0 p1 p2 m0 Q) : Met l yX0_isAt wsX0_isAt ({ frames := 0, cells := 0, slots := 0, locals := 8 }) (va_Pc [.ref a0, .int p1, .int p2] (SP G base m0)) (va_Qi Q (HB G base) (xA base)) 0 0 (xA base) := by
  refine Met.ofW (cc := cX0_isAt) (maxL := 3) (ret := (some .boolean)) (by decide) rfl ?_
  intro p e s m args below meth c s₁ B hml hv
  obtain ⟨rfl, hbase, hh, hK, hX⟩ := hv
  have C0 : BC p s m _ meth c G base RX0 cX0_isAt 3 (some .boolean) wsX0_isAt := ⟨B.exec, B.bytes, B.returns, hml, findClass_of_methodNamed B.named, atoms_spec (ws := wsX0_isAt) B.pre, B.notSynchronized, hK, hbase, hX⟩
  obtain ⟨hx, hb, hr, -, hown, hts, hlocks, -, -, -⟩ := id C0
  have hS : va_S (xA base) s.heap s.heap [] := va_S.rf
  have hl := lv_entry ([.ref a0, .int p1, .int p2]) (n := 3) (Nat.le_of_ble_eq_true rfl)
  rw [lg_entry_eq]
  generalize (lg_sl ([.ref a0, .int p1, .int p2]) ++ List.replicate (3 - (lg_sl ([.ref a0, .int p1, .int p2])).length) Slot.unset).toArray = ls at hl ⊢
  have hl : lv_has ls 3 [(0, .ref a0), (1, .int p1), (2, .int p2)] := hl
  unfold wp_X0_isAt at h
  have hL0 : ∀ w ∈ u_ws RX0 TX0 3, w.before _ s = true := fun w h9 => hts w (List.mem_cons_of_mem _ (List.mem_append_right _ (h9)))
  have q2 : (Cond.fieldLink RX0 18 "RollupStore$Points" "kept" "I").before _ s = true := hts _ (List.mem_cons_of_mem _ (List.mem_append_left _ (List.mem_of_getElem? (i := 0) rfl)))
  have q3 : (Cond.fieldLink RX0 9 "RollupStore$Points" "times" "[I").before _ s = true := hts _ (List.mem_cons_of_mem _ (List.mem_append_left _ (List.mem_of_getElem? (i := 1) rfl)))
  refine lv_iload_n hx hb dX0_isAt_0 rfl (lv_at hl 1 rfl) ?_
  refine lv_if_lt (tgt := 26) hx hb dX0_isAt_1 (by decide) (fun c1 => ?_) (fun c1 => ?_)
  · replace h := h.1 c1
    refine lv_iconst (v := 0) hx hb dX0_isAt_26 (by decide) ?_
    exact (xe_z hx hb hr hlocks hbase hh hK hX hS (Or.inl rfl) h (Nat.le_of_ble_eq_true rfl) (Nat.le_of_ble_eq_true rfl) dX0_isAt_27)
  · replace h := h.2 c1
    refine lv_iload_n hx hb dX0_isAt_4 rfl (lv_at hl 1 rfl) ?_
    refine lv_aload_n hx hb dX0_isAt_5 rfl (lv_at hl 0 rfl) ?_
    obtain ⟨g2, h⟩ := h
    refine xr_getI (ci := 0) (C := RX0) (T := TX0) (N := 3) hx hb hL0 hown hK hh g2 (by decide) rfl 2 2 rfl rfl (by decide) (by decide) q2 (fun _ h9 => h9) dX0_isAt_6 ?_
    refine lv_icmp_ge (tgt := 26) hx hb dX0_isAt_9 (by decide) (fun c3 => ?_) (fun c3 => ?_)
    · replace h := h.1 c3
      refine lv_iconst (v := 0) hx hb dX0_isAt_26 (by decide) ?_
      exact (xe_z hx hb hr hlocks hbase hh hK hX hS (Or.inl rfl) h (Nat.le_of_ble_eq_true rfl) (Nat.le_of_ble_eq_true rfl) dX0_isAt_27)
    · replace h := h.2 c3
      refine lv_aload_n hx hb dX0_isAt_12 rfl (lv_at hl 0 rfl) ?_
      obtain ⟨g4, h⟩ := h
      obtain ⟨b5, eb5, h⟩ := h
      refine xr_getR (ci := 0) (C := RX0) (T := TX0) (N := 3) hx hb hL0 hown hK hh g4 (by decide) rfl 0 0 rfl rfl (by decide) (by decide) q3 (fun _ h9 => h9) eb5 dX0_isAt_13 ?_
      refine lv_iload_n hx hb dX0_isAt_16 rfl (lv_at hl 1 rfl) ?_
      obtain ⟨g6, h⟩ := h
      obtain ⟨g7, h⟩ := h
      refine xr_iald hx hb hK hh g6 g7 dX0_isAt_17 ?_
      refine lv_iload_n hx hb dX0_isAt_18 rfl (lv_at hl 2 rfl) ?_
      refine lv_icmp_ne (tgt := 26) hx hb dX0_isAt_19 (by decide) (fun c8 => ?_) (fun c8 => ?_)
      · replace h := h.1 c8
        refine lv_iconst (v := 0) hx hb dX0_isAt_26 (by decide) ?_
        exact (xe_z hx hb hr hlocks hbase hh hK hX hS (Or.inl rfl) h (Nat.le_of_ble_eq_true rfl) (Nat.le_of_ble_eq_true rfl) dX0_isAt_27)
      · replace h := h.2 c8
        refine lv_iconst (v := 1) hx hb dX0_isAt_22 (by decide) ?_
        refine lv_goto (tgt := 27) hx hb dX0_isAt_23 (by decide) ?_
        exact (xe_z hx hb hr hlocks hbase hh hK hX hS (Or.inr rfl) h (Nat.le_of_ble_eq_true rfl) (Nat.le_of_ble_eq_true rfl) dX0_isAt_27)

set_option maxHeartbeats 4000000 in
set_option maxRecDepth 100000 in
theorem mt_X0_write (l : Launch) (G : GG) (base : Nat) {a0 : Nat} {p1 : Int32} {p2 : Int32} {m0 : MM} {Q : Int32 → MM → Prop} (h : wp_X0_write a0 p1 p2 m0 Q) : Met l yX0_write wsX0_write ({ frames := 1, cells := 0, slots := 0, locals := 70 }) (va_Pc [.ref a0, .int p1, .int p2] (SP G base m0)) (va_Qi Q (HB G base) (xA base)) 0 0 (xA base) := by
  refine Met.ofW (cc := cX0_write) (maxL := 5) (ret := (some .boolean)) (by decide) rfl ?_
  intro p e s m args below meth c s₁ B hml hv
  obtain ⟨rfl, hbase, hh, hK, hX⟩ := hv
  have C0 : BC p s m _ meth c G base RX0 cX0_write 5 (some .boolean) wsX0_write := ⟨B.exec, B.bytes, B.returns, hml, findClass_of_methodNamed B.named, atoms_spec (ws := wsX0_write) B.pre, B.notSynchronized, hK, hbase, hX⟩
  obtain ⟨hx, hb, hr, -, hown, hts, hlocks, -, -, -⟩ := id C0
  have hS : va_S (xA base) s.heap s.heap [] := va_S.rf
  have hl := lv_entry ([.ref a0, .int p1, .int p2]) (n := 5) (Nat.le_of_ble_eq_true rfl)
  rw [lg_entry_eq]
  generalize (lg_sl ([.ref a0, .int p1, .int p2]) ++ List.replicate (5 - (lg_sl ([.ref a0, .int p1, .int p2])).length) Slot.unset).toArray = ls at hl ⊢
  have hl : lv_has ls 5 [(0, .ref a0), (1, .int p1), (2, .int p2)] := hl
  unfold wp_X0_write at h
  have hL0 : ∀ w ∈ u_ws RX0 TX0 3, w.before _ s = true := fun w h9 => hts w (List.mem_cons_of_mem _ (List.mem_append_right _ (h9)))
  have q2 : (Cond.fieldLink RX0 15 "RollupStore$Points" "values" "[I").before _ s = true := hts _ (List.mem_cons_of_mem _ (List.mem_append_left _ (List.mem_of_getElem? (i := 6) rfl)))
  have q3 : (Cond.fieldLink RX0 18 "RollupStore$Points" "kept" "I").before _ s = true := hts _ (List.mem_cons_of_mem _ (List.mem_append_left _ (List.mem_of_getElem? (i := 0) rfl)))
  have q4 : (Cond.fieldLink RX0 9 "RollupStore$Points" "times" "[I").before _ s = true := hts _ (List.mem_cons_of_mem _ (List.mem_append_left _ (List.mem_of_getElem? (i := 1) rfl)))
  have q5 : (Cond.methodLink RX0 30 arraycopyName).before _ s = true := hts _ (List.mem_cons_of_mem _ (List.mem_append_left _ (List.mem_of_getElem? (i := 2) rfl)))
  have q6 : (Cond.native arraycopyName).before _ s = true := hts _ (List.mem_cons_of_mem _ (List.mem_append_left _ (List.mem_of_getElem? (i := 3) rfl)))
  have q7 : (Cond.static arraycopyName).before _ s = true := hts _ (List.mem_cons_of_mem _ (List.mem_append_left _ (List.mem_of_getElem? (i := 4) rfl)))
  have q8 : (Cond.initialized "java/lang/System").before _ s = true := hts _ (List.mem_cons_of_mem _ (List.mem_append_left _ (List.mem_of_getElem? (i := 5) rfl)))
  refine lv_aload_n hx hb dX0_write_0 rfl (lv_at hl 0 rfl) ?_
  refine lv_iload_n hx hb dX0_write_1 rfl (lv_at hl 1 rfl) ?_
  obtain ⟨g1, h⟩ := h
  refine xc_i (va_runV (As := [.int p1]) (rest := []) ⟨hx, hb, hml, hown, hts⟩ (mt_X0_placeFrom l G base h) (cwV 1 hts gX0_write_X0_placeFrom rfl rfl rfl (by decide +kernel) ⟨Nat.le_of_ble_eq_true rfl, Nat.le_of_ble_eq_true rfl⟩) (xp_V hbase hh hK hX hS (ci := 0) g1 (by decide) rfl) rfl rfl hl.1 rfl (lv_room (Nat.le_of_ble_eq_true rfl)) dX0_write_2 ⟨Nat.le_of_ble_eq_true rfl, Nat.le_of_ble_eq_true rfl⟩) hS (fun r2 m3 H locs h hh hS => ?_)
  refine lv_istore_n (lv' := [(3, .int r2), (0, .ref a0), (1, .int p1), (2, .int p2)]) hx hb dX0_write_5 rfl hl (by decide) rfl (fun ls hl => ?_)
  refine lv_aload_n hx hb dX0_write_6 rfl (lv_at hl 1 rfl) ?_
  refine lv_iload_n hx hb dX0_write_7 rfl (lv_at hl 0 rfl) ?_
  refine lv_iload_n hx hb dX0_write_8 rfl (lv_at hl 2 rfl) ?_
  obtain ⟨g4, h⟩ := h
  refine xc_i (va_runV (As := [.int r2, .int p1]) (rest := []) ⟨hx, hb, hml, hown, hts⟩ (mt_X0_isAt l G base h) (cwV 2 hts gX0_write_X0_isAt rfl rfl rfl (by decide +kernel) ⟨Nat.le_of_ble_eq_true rfl, Nat.le_of_ble_eq_true rfl⟩) (xp_V hbase hh hK hX hS (ci := 0) g4 (by decide) rfl) rfl rfl hl.1 rfl (lv_room (Nat.le_of_ble_eq_true rfl)) dX0_write_9 ⟨Nat.le_of_ble_eq_true rfl, Nat.le_of_ble_eq_true rfl⟩) hS (fun r5 m6 H locs h hh hS => ?_)
  refine lv_istore (lv' := [(4, .int r5), (3, .int r2), (0, .ref a0), (1, .int p1), (2, .int p2)]) hx hb dX0_write_12 hl (by decide) rfl (fun ls hl => ?_)
  refine lv_iload hx hb dX0_write_14 (lv_at hl 0 rfl) ?_
  refine lv_if_ne (tgt := 87) hx hb dX0_write_16 (by decide) (fun c7 => ?_) (fun c7 => ?_)
  · replace h := h.1 c7
    refine lv_aload_n hx hb dX0_write_87 rfl (lv_at hl 2 rfl) ?_
    refine lv_iload_n hx hb dX0_write_88 rfl (lv_at hl 1 rfl) ?_
    refine lv_iload_n hx hb dX0_write_89 rfl (lv_at hl 3 rfl) ?_
    obtain ⟨g8, h⟩ := h
    refine xc_i (va_runV (As := [.int r2, .int p1]) (rest := []) ⟨hx, hb, hml, hown, hts⟩ (mt_X0_isAt l G base h) (cwV 2 hts gX0_write_X0_isAt rfl rfl rfl (by decide +kernel) ⟨Nat.le_of_ble_eq_true rfl, Nat.le_of_ble_eq_true rfl⟩) (xp_V hbase hh hK hX hS (ci := 0) g8 (by decide) rfl) rfl rfl hl.1 rfl (lv_room (Nat.le_of_ble_eq_true rfl)) dX0_write_90 ⟨Nat.le_of_ble_eq_true rfl, Nat.le_of_ble_eq_true rfl⟩) hS (fun r9 m10 H locs h hh hS => ?_)
    refine lv_if_eq (tgt := 103) hx hb dX0_write_93 (by decide) (fun c11 => ?_) (fun c11 => ?_)
    · replace h := h.1 c11
      refine lv_iload hx hb dX0_write_103 (lv_at hl 0 rfl) ?_
      exact (xe_z hx hb hr hlocks hbase hh hK hX hS h.1 h.2 (Nat.le_of_ble_eq_true rfl) (Nat.le_of_ble_eq_true rfl) dX0_write_105)
    · replace h := h.2 c11
      refine lv_aload_n hx hb dX0_write_96 rfl (lv_at hl 2 rfl) ?_
      obtain ⟨g12, h⟩ := h
      obtain ⟨b13, eb13, h⟩ := h
      refine xr_getR (ci := 0) (C := RX0) (T := TX0) (N := 3) hx hb hL0 hown hK hh g12 (by decide) rfl 1 1 rfl rfl (by decide) (by decide) q2 (fun _ h9 => h9) eb13 dX0_write_97 ?_
      refine lv_iload_n hx hb dX0_write_100 rfl (lv_at hl 1 rfl) ?_
      refine lv_iload_n hx hb dX0_write_101 rfl (lv_at hl 4 rfl) ?_
      obtain ⟨g14, h⟩ := h
      obtain ⟨g15, h⟩ := h
      refine xr_iast hx hb hK hh g14 hS g15 dX0_write_102 (fun H locs hh hS => ?_)
      obtain ⟨m16, em16⟩ : ∃ z : MM, z = sAI m10 b13 (va_up (mAI m10 b13) r2.toNatClampNeg p2) := ⟨_, rfl⟩
      rw [← em16] at hh
      replace h := h m16 em16
      refine lv_iload hx hb dX0_write_103 (lv_at hl 0 rfl) ?_
      exact (xe_z hx hb hr hlocks hbase hh hK hX hS h.1 h.2 (Nat.le_of_ble_eq_true rfl) (Nat.le_of_ble_eq_true rfl) dX0_write_105)
  · replace h := h.2 c7
    refine lv_aload_n hx hb dX0_write_19 rfl (lv_at hl 2 rfl) ?_
    obtain ⟨g17, h⟩ := h
    refine xr_getI (ci := 0) (C := RX0) (T := TX0) (N := 3) hx hb hL0 hown hK hh g17 (by decide) rfl 2 2 rfl rfl (by decide) (by decide) q3 (fun _ h9 => h9) dX0_write_20 ?_
    refine lv_bipush (v := 100) hx hb dX0_write_23 (by decide) ?_
    refine lv_icmp_ge (tgt := 87) hx hb dX0_write_25 (by decide) (fun c18 => ?_) (fun c18 => ?_)
    · replace h := h.1 c18
      refine lv_aload_n hx hb dX0_write_87 rfl (lv_at hl 2 rfl) ?_
      refine lv_iload_n hx hb dX0_write_88 rfl (lv_at hl 1 rfl) ?_
      refine lv_iload_n hx hb dX0_write_89 rfl (lv_at hl 3 rfl) ?_
      obtain ⟨g19, h⟩ := h
      refine xc_i (va_runV (As := [.int r2, .int p1]) (rest := []) ⟨hx, hb, hml, hown, hts⟩ (mt_X0_isAt l G base h) (cwV 2 hts gX0_write_X0_isAt rfl rfl rfl (by decide +kernel) ⟨Nat.le_of_ble_eq_true rfl, Nat.le_of_ble_eq_true rfl⟩) (xp_V hbase hh hK hX hS (ci := 0) g19 (by decide) rfl) rfl rfl hl.1 rfl (lv_room (Nat.le_of_ble_eq_true rfl)) dX0_write_90 ⟨Nat.le_of_ble_eq_true rfl, Nat.le_of_ble_eq_true rfl⟩) hS (fun r20 m21 H locs h hh hS => ?_)
      refine lv_if_eq (tgt := 103) hx hb dX0_write_93 (by decide) (fun c22 => ?_) (fun c22 => ?_)
      · replace h := h.1 c22
        refine lv_iload hx hb dX0_write_103 (lv_at hl 0 rfl) ?_
        exact (xe_z hx hb hr hlocks hbase hh hK hX hS h.1 h.2 (Nat.le_of_ble_eq_true rfl) (Nat.le_of_ble_eq_true rfl) dX0_write_105)
      · replace h := h.2 c22
        refine lv_aload_n hx hb dX0_write_96 rfl (lv_at hl 2 rfl) ?_
        obtain ⟨g23, h⟩ := h
        obtain ⟨b24, eb24, h⟩ := h
        refine xr_getR (ci := 0) (C := RX0) (T := TX0) (N := 3) hx hb hL0 hown hK hh g23 (by decide) rfl 1 1 rfl rfl (by decide) (by decide) q2 (fun _ h9 => h9) eb24 dX0_write_97 ?_
        refine lv_iload_n hx hb dX0_write_100 rfl (lv_at hl 1 rfl) ?_
        refine lv_iload_n hx hb dX0_write_101 rfl (lv_at hl 4 rfl) ?_
        obtain ⟨g25, h⟩ := h
        obtain ⟨g26, h⟩ := h
        refine xr_iast hx hb hK hh g25 hS g26 dX0_write_102 (fun H locs hh hS => ?_)
        obtain ⟨m27, em27⟩ : ∃ z : MM, z = sAI m21 b24 (va_up (mAI m21 b24) r2.toNatClampNeg p2) := ⟨_, rfl⟩
        rw [← em27] at hh
        replace h := h m27 em27
        refine lv_iload hx hb dX0_write_103 (lv_at hl 0 rfl) ?_
        exact (xe_z hx hb hr hlocks hbase hh hK hX hS h.1 h.2 (Nat.le_of_ble_eq_true rfl) (Nat.le_of_ble_eq_true rfl) dX0_write_105)
    · replace h := h.2 c18
      refine lv_aload_n hx hb dX0_write_28 rfl (lv_at hl 2 rfl) ?_
      obtain ⟨g28, h⟩ := h
      obtain ⟨b29, eb29, h⟩ := h
      refine xr_getR (ci := 0) (C := RX0) (T := TX0) (N := 3) hx hb hL0 hown hK hh g28 (by decide) rfl 0 0 rfl rfl (by decide) (by decide) q4 (fun _ h9 => h9) eb29 dX0_write_29 ?_
      refine lv_iload_n hx hb dX0_write_32 rfl (lv_at hl 1 rfl) ?_
      refine lv_aload_n hx hb dX0_write_33 rfl (lv_at hl 2 rfl) ?_
      obtain ⟨g30, h⟩ := h
      obtain ⟨b31, eb31, h⟩ := h
      refine xr_getR (ci := 0) (C := RX0) (T := TX0) (N := 3) hx hb hL0 hown hK hh g30 (by decide) rfl 0 0 rfl rfl (by decide) (by decide) q4 (fun _ h9 => h9) eb31 dX0_write_34 ?_
      refine lv_iload_n hx hb dX0_write_37 rfl (lv_at hl 1 rfl) ?_
      refine lv_iconst (v := 1) hx hb dX0_write_38 (by decide) ?_
      refine lv_iadd hx hb dX0_write_39 ?_
      refine lv_aload_n hx hb dX0_write_40 rfl (lv_at hl 2 rfl) ?_
      obtain ⟨g32, h⟩ := h
      refine xr_getI (ci := 0) (C := RX0) (T := TX0) (N := 3) hx hb hL0 hown hK hh g32 (by decide) rfl 2 2 rfl rfl (by decide) (by decide) q3 (fun _ h9 => h9) dX0_write_41 ?_
      refine lv_iload_n hx hb dX0_write_44 rfl (lv_at hl 1 rfl) ?_
      refine lv_isub hx hb dX0_write_45 ?_
      obtain ⟨g33, h⟩ := h
      obtain ⟨g34, h⟩ := h
      obtain ⟨g35, h⟩ := h
      obtain ⟨g36, h⟩ := h
      obtain ⟨g37, h⟩ := h
      obtain ⟨g38, h⟩ := h
      obtain ⟨g39, h⟩ := h
      refine xr_copy hx hb (hml.trans hl.1.symm) hown q5 q6 q7 q8 hK hh hS g33 g34 g35 g36 g37 g38 g39 (Nat.le_of_ble_eq_true rfl) (Nat.le_of_ble_eq_true rfl) dX0_write_46 (fun H locs hh hS => ?_)
      obtain ⟨m40, em40⟩ : ∃ z : MM, z = sAI m6 b31 (va_cpy (mAI m6 b29) (mAI m6 b31) r2.toNatClampNeg (r2 + (1 : Int32)).toNatClampNeg ((mI m6 2 a0) - r2).toNatClampNeg) := ⟨_, rfl⟩
      rw [← em40] at hh
      replace h := h m40 em40
      refine lv_aload_n hx hb dX0_write_49 rfl (lv_at hl 2 rfl) ?_
      obtain ⟨g41, h⟩ := h
      obtain ⟨b42, eb42, h⟩ := h
      refine xr_getR (ci := 0) (C := RX0) (T := TX0) (N := 3) hx hb hL0 hown hK hh g41 (by decide) rfl 1 1 rfl rfl (by decide) (by decide) q2 (fun _ h9 => h9) eb42 dX0_write_50 ?_
      refine lv_iload_n hx hb dX0_write_53 rfl (lv_at hl 1 rfl) ?_
      refine lv_aload_n hx hb dX0_write_54 rfl (lv_at hl 2 rfl) ?_
      obtain ⟨g43, h⟩ := h
      obtain ⟨b44, eb44, h⟩ := h
      refine xr_getR (ci := 0) (C := RX0) (T := TX0) (N := 3) hx hb hL0 hown hK hh g43 (by decide) rfl 1 1 rfl rfl (by decide) (by decide) q2 (fun _ h9 => h9) eb44 dX0_write_55 ?_
      refine lv_iload_n hx hb dX0_write_58 rfl (lv_at hl 1 rfl) ?_
      refine lv_iconst (v := 1) hx hb dX0_write_59 (by decide) ?_
      refine lv_iadd hx hb dX0_write_60 ?_
      refine lv_aload_n hx hb dX0_write_61 rfl (lv_at hl 2 rfl) ?_
      obtain ⟨g45, h⟩ := h
      refine xr_getI (ci := 0) (C := RX0) (T := TX0) (N := 3) hx hb hL0 hown hK hh g45 (by decide) rfl 2 2 rfl rfl (by decide) (by decide) q3 (fun _ h9 => h9) dX0_write_62 ?_
      refine lv_iload_n hx hb dX0_write_65 rfl (lv_at hl 1 rfl) ?_
      refine lv_isub hx hb dX0_write_66 ?_
      obtain ⟨g46, h⟩ := h
      obtain ⟨g47, h⟩ := h
      obtain ⟨g48, h⟩ := h
      obtain ⟨g49, h⟩ := h
      obtain ⟨g50, h⟩ := h
      obtain ⟨g51, h⟩ := h
      obtain ⟨g52, h⟩ := h
      refine xr_copy hx hb (hml.trans hl.1.symm) hown q5 q6 q7 q8 hK hh hS g46 g47 g48 g49 g50 g51 g52 (Nat.le_of_ble_eq_true rfl) (Nat.le_of_ble_eq_true rfl) dX0_write_67 (fun H locs hh hS => ?_)
      obtain ⟨m53, em53⟩ : ∃ z : MM, z = sAI m40 b44 (va_cpy (mAI m40 b42) (mAI m40 b44) r2.toNatClampNeg (r2 + (1 : Int32)).toNatClampNeg ((mI m40 2 a0) - r2).toNatClampNeg) := ⟨_, rfl⟩
      rw [← em53] at hh
      replace h := h m53 em53
      refine lv_aload_n hx hb dX0_write_70 rfl (lv_at hl 2 rfl) ?_
      obtain ⟨g54, h⟩ := h
      obtain ⟨b55, eb55, h⟩ := h
      refine xr_getR (ci := 0) (C := RX0) (T := TX0) (N := 3) hx hb hL0 hown hK hh g54 (by decide) rfl 0 0 rfl rfl (by decide) (by decide) q4 (fun _ h9 => h9) eb55 dX0_write_71 ?_
      refine lv_iload_n hx hb dX0_write_74 rfl (lv_at hl 1 rfl) ?_
      refine lv_iload_n hx hb dX0_write_75 rfl (lv_at hl 3 rfl) ?_
      obtain ⟨g56, h⟩ := h
      obtain ⟨g57, h⟩ := h
      refine xr_iast hx hb hK hh g56 hS g57 dX0_write_76 (fun H locs hh hS => ?_)
      obtain ⟨m58, em58⟩ : ∃ z : MM, z = sAI m53 b55 (va_up (mAI m53 b55) r2.toNatClampNeg p1) := ⟨_, rfl⟩
      rw [← em58] at hh
      replace h := h m58 em58
      refine lv_aload_n hx hb dX0_write_77 rfl (lv_at hl 2 rfl) ?_
      refine lv_dup hx hb dX0_write_78 rfl ?_
      obtain ⟨g59, h⟩ := h
      refine xr_getI (ci := 0) (C := RX0) (T := TX0) (N := 3) hx hb hL0 hown hK hh g59 (by decide) rfl 2 2 rfl rfl (by decide) (by decide) q3 (fun _ h9 => h9) dX0_write_79 ?_
      refine lv_iconst (v := 1) hx hb dX0_write_82 (by decide) ?_
      refine lv_iadd hx hb dX0_write_83 ?_
      obtain ⟨g60, h⟩ := h
      refine xr_putI (ci := 0) (C := RX0) (T := TX0) (N := 3) hx hb hL0 hown hK hh g60 (by decide) rfl 2 2 rfl rfl (by decide) (by decide) q3 (fun _ h9 => h9) tyX0 tyX0_ok nmX0 rfl rfl rfl hS dX0_write_84 (fun H locs hh hS => ?_)
      obtain ⟨m61, em61⟩ : ∃ z : MM, z = sI m58 2 a0 ((mI m58 2 a0) + (1 : Int32)) := ⟨_, rfl⟩
      rw [← em61] at hh
      replace h := h m61 em61
      refine lv_aload_n hx hb dX0_write_87 rfl (lv_at hl 2 rfl) ?_
      refine lv_iload_n hx hb dX0_write_88 rfl (lv_at hl 1 rfl) ?_
      refine lv_iload_n hx hb dX0_write_89 rfl (lv_at hl 3 rfl) ?_
      obtain ⟨g62, h⟩ := h
      refine xc_i (va_runV (As := [.int r2, .int p1]) (rest := []) ⟨hx, hb, hml, hown, hts⟩ (mt_X0_isAt l G base h) (cwV 2 hts gX0_write_X0_isAt rfl rfl rfl (by decide +kernel) ⟨Nat.le_of_ble_eq_true rfl, Nat.le_of_ble_eq_true rfl⟩) (xp_V hbase hh hK hX hS (ci := 0) g62 (by decide) rfl) rfl rfl hl.1 rfl (lv_room (Nat.le_of_ble_eq_true rfl)) dX0_write_90 ⟨Nat.le_of_ble_eq_true rfl, Nat.le_of_ble_eq_true rfl⟩) hS (fun r63 m64 H locs h hh hS => ?_)
      refine lv_if_eq (tgt := 103) hx hb dX0_write_93 (by decide) (fun c65 => ?_) (fun c65 => ?_)
      · replace h := h.1 c65
        refine lv_iload hx hb dX0_write_103 (lv_at hl 0 rfl) ?_
        exact (xe_z hx hb hr hlocks hbase hh hK hX hS h.1 h.2 (Nat.le_of_ble_eq_true rfl) (Nat.le_of_ble_eq_true rfl) dX0_write_105)
      · replace h := h.2 c65
        refine lv_aload_n hx hb dX0_write_96 rfl (lv_at hl 2 rfl) ?_
        obtain ⟨g66, h⟩ := h
        obtain ⟨b67, eb67, h⟩ := h
        refine xr_getR (ci := 0) (C := RX0) (T := TX0) (N := 3) hx hb hL0 hown hK hh g66 (by decide) rfl 1 1 rfl rfl (by decide) (by decide) q2 (fun _ h9 => h9) eb67 dX0_write_97 ?_
        refine lv_iload_n hx hb dX0_write_100 rfl (lv_at hl 1 rfl) ?_
        refine lv_iload_n hx hb dX0_write_101 rfl (lv_at hl 4 rfl) ?_
        obtain ⟨g68, h⟩ := h
        obtain ⟨g69, h⟩ := h
        refine xr_iast hx hb hK hh g68 hS g69 dX0_write_102 (fun H locs hh hS => ?_)
        obtain ⟨m70, em70⟩ : ∃ z : MM, z = sAI m64 b67 (va_up (mAI m64 b67) r2.toNatClampNeg p2) := ⟨_, rfl⟩
        rw [← em70] at hh
        replace h := h m70 em70
        refine lv_iload hx hb dX0_write_103 (lv_at hl 0 rfl) ?_
        exact (xe_z hx hb hr hlocks hbase hh hK hX hS h.1 h.2 (Nat.le_of_ble_eq_true rfl) (Nat.le_of_ble_eq_true rfl) dX0_write_105)

set_option maxHeartbeats 4000000 in
set_option maxRecDepth 100000 in
theorem bk_X2_makeRoom_32 {p : Program} {l : Launch} {e : Env} {s : State} {m : MethodId} {args : Array Value} {below : List Frame} {meth : Method} {c : Code} {G : GG} {base : Nat} {MC MS : Nat} (C0 : BC p s m args meth c G base RX2 cX2_makeRoom 3 none wsX2_makeRoom) {Q : MM → Prop} : ∀ (n : Nat) (l0 : Nat) (l1 : Nat) (l2 : Int32) (m0 : MM) (H : Heap) (locs : List Loc) (ls : Array Slot) (cl9 sl9 kc ks : Nat) (hcc : cl9 + kc ≤ MC) (hss : sl9 + ks ≤ MS), wp_X2_makeRoom_32 Q n l0 l1 l2 m0 kc ks → hp G (xA base) m0 H → va_S (xA base) s.heap H locs → lv_has ls 3 [(0, .ref l0), (1, .ref l1), (2, .int l2)] → W p l e ({ frames := 1, cells := MC, slots := MS, locals := 70 } : Room) s m args below meth c H locs cl9 sl9 (MQ below (va_Qv Q (HB G base) (xA base)) args s MC MS (xA base)) (F0 m 32 ls []) := by
  obtain ⟨hx, hb, hr, hml, hown, hts, hlocks, hK, hbase, hX⟩ := id C0
  intro n
  induction n with
  | zero =>
    intro l0 l1 l2 m0 H locs ls cl9 sl9 kc ks hcc hss h
    unfold wp_X2_makeRoom_32 at h
    exact h.elim
  | succ n ih =>
    intro l0 l1 l2 m0 H locs ls cl9 sl9 kc ks hcc hss h hh hS hl
    unfold wp_X2_makeRoom_32 at h
    have hL2 : ∀ w ∈ u_ws RX2 TX2 3, w.before _ s = true := fun w h9 => hts w (List.mem_cons_of_mem _ (List.mem_append_right _ (h9)))
    have q2 : (Cond.fieldLink RX2 28 "RollupStore$Rollups" "kept" "I").before _ s = true := hts _ (List.mem_cons_of_mem _ (List.mem_append_left _ (List.mem_of_getElem? (i := 0) rfl)))
    have q3 : (Cond.fieldLink RX2 11 "RollupStore$Rollups" "rows" "[LRollupStore$Rollup;").before _ s = true := hts _ (List.mem_cons_of_mem _ (List.mem_append_left _ (List.mem_of_getElem? (i := 1) rfl)))
    refine lv_iload_n hx hb dX2_makeRoom_32 rfl (lv_at hl 2 rfl) ?_
    refine lv_aload_n hx hb dX2_makeRoom_33 rfl (lv_at hl 0 rfl) ?_
    obtain ⟨g21, h⟩ := h
    refine xr_getI (ci := 2) (C := RX2) (T := TX2) (N := 3) hx hb hL2 hown hK hh g21 (by decide) rfl 2 42 rfl rfl (by decide) (by decide) q2 (fun _ h9 => h9) dX2_makeRoom_34 ?_
    refine lv_icmp_ge (tgt := 55) hx hb dX2_makeRoom_37 (by decide) (fun c22 => ?_) (fun c22 => ?_)
    · replace h := h.1 c22
      refine lv_aload_n hx hb dX2_makeRoom_55 rfl (lv_at hl 0 rfl) ?_
      refine lv_aload_n hx hb dX2_makeRoom_56 rfl (lv_at hl 1 rfl) ?_
      obtain ⟨g23, h⟩ := h
      refine xr_putR (ci := 2) (C := RX2) (T := TX2) (N := 3) hx hb hL2 hown hK hh g23 (by decide) rfl 1 41 rfl rfl (by decide) (by decide) q3 (fun _ h9 => h9) tyX2 tyX2_ok nmX2 rfl rfl rfl hS dX2_makeRoom_57 (fun H locs hh hS => ?_)
      obtain ⟨m24, em24⟩ : ∃ z : MM, z = sR m0 41 l0 (some l1) := ⟨_, rfl⟩
      rw [← em24] at hh
      replace h := h m24 em24
      exact (xe_v hx hb hr hlocks hbase hh hK hX hS h (by omega) (by omega) dX2_makeRoom_60)
    · replace h := h.2 c22
      refine lv_aload_n hx hb dX2_makeRoom_40 rfl (lv_at hl 1 rfl) ?_
      refine lv_iload_n hx hb dX2_makeRoom_41 rfl (lv_at hl 2 rfl) ?_
      refine lv_aload_n hx hb dX2_makeRoom_42 rfl (lv_at hl 0 rfl) ?_
      obtain ⟨g25, h⟩ := h
      obtain ⟨b26, eb26, h⟩ := h
      refine xr_getR (ci := 2) (C := RX2) (T := TX2) (N := 3) hx hb hL2 hown hK hh g25 (by decide) rfl 1 41 rfl rfl (by decide) (by decide) q3 (fun _ h9 => h9) eb26 dX2_makeRoom_43 ?_
      refine lv_iload_n hx hb dX2_makeRoom_46 rfl (lv_at hl 2 rfl) ?_
      obtain ⟨g27, h⟩ := h
      obtain ⟨g28, h⟩ := h
      refine xr_qald hx hb hK hh g27 g28 dX2_makeRoom_47 (fun o29 eo29 => ?_)
      replace h := h o29 eo29
      obtain ⟨b30, eb30, h⟩ := h
      rw [eb30]
      refine W.eq (g2 := F0 m 48 ls [.ref b30, .int l2, .ref l1]) rfl ?_
      obtain ⟨g31, h⟩ := h
      obtain ⟨g32, h⟩ := h
      obtain ⟨g33, h⟩ := h
      refine xr_qast hx hb hK hh g31 hS g33 g32 dX2_makeRoom_48 (fun H locs hh hS => ?_)
      obtain ⟨m34, em34⟩ : ∃ z : MM, z = sAR m0 l1 (va_up (mAR m0 l1) l2.toNatClampNeg (some b30)) := ⟨_, rfl⟩
      rw [← em34] at hh
      replace h := h m34 em34
      obtain ⟨x35, ex35⟩ : ∃ y : Int32, y = l2 + 1 := ⟨_, rfl⟩
      replace h := h x35 ex35
      refine lv_iinc (v := x35) (lv' := [(2, .int x35), (0, .ref l0), (1, .ref l1)]) hx hb dX2_makeRoom_49 hl (k := 2) rfl (by rw [ex35]; rfl) (by decide) rfl (fun ls hl => ?_)
      refine lv_goto (tgt := 32) hx hb dX2_makeRoom_52 (by decide) ?_
      exact ih _ _ _ _ _ _ _ cl9 sl9 kc ks hcc hss h hh hS (lv_sub hl [1, 2, 0] rfl)

set_option maxHeartbeats 4000000 in
set_option maxRecDepth 100000 in
theorem mt_X2_makeRoom (l : Launch) (G : GG) (base : Nat) {a0 : Nat} {m0 : MM} {Q : MM → Prop} {kc ks : Nat} (h : wp_X2_makeRoom a0 m0 Q kc ks) : Met l yX2_makeRoom wsX2_makeRoom ({ frames := 1, cells := kc, slots := ks, locals := 70 }) (va_Pc [.ref a0] (SP G base m0)) (va_Qv Q (HB G base) (xA base)) kc ks (xA base) := by
  refine Met.ofW (cc := cX2_makeRoom) (maxL := 3) (ret := none) (by decide) rfl ?_
  intro p e s m args below meth c s₁ B hml hv
  obtain ⟨rfl, hbase, hh, hK, hX⟩ := hv
  have C0 : BC p s m _ meth c G base RX2 cX2_makeRoom 3 none wsX2_makeRoom := ⟨B.exec, B.bytes, B.returns, hml, findClass_of_methodNamed B.named, atoms_spec (ws := wsX2_makeRoom) B.pre, B.notSynchronized, hK, hbase, hX⟩
  obtain ⟨hx, hb, hr, -, hown, hts, hlocks, -, -, -⟩ := id C0
  have hS : va_S (xA base) s.heap s.heap [] := va_S.rf
  have hl := lv_entry ([.ref a0]) (n := 3) (Nat.le_of_ble_eq_true rfl)
  rw [lg_entry_eq]
  generalize (lg_sl ([.ref a0]) ++ List.replicate (3 - (lg_sl ([.ref a0])).length) Slot.unset).toArray = ls at hl ⊢
  have hl : lv_has ls 3 [(0, .ref a0)] := hl
  unfold wp_X2_makeRoom at h
  have hcc : 0 + kc ≤ kc := by omega
  have hss : 0 + ks ≤ ks := by omega
  have hL2 : ∀ w ∈ u_ws RX2 TX2 3, w.before _ s = true := fun w h9 => hts w (List.mem_cons_of_mem _ (List.mem_append_right _ (h9)))
  have q2 : (Cond.fieldLink RX2 28 "RollupStore$Rollups" "kept" "I").before _ s = true := hts _ (List.mem_cons_of_mem _ (List.mem_append_left _ (List.mem_of_getElem? (i := 0) rfl)))
  have q3 : (Cond.fieldLink RX2 11 "RollupStore$Rollups" "rows" "[LRollupStore$Rollup;").before _ s = true := hts _ (List.mem_cons_of_mem _ (List.mem_append_left _ (List.mem_of_getElem? (i := 1) rfl)))
  have q4 : (Cond.methodLink RX2 39 Lib.Math.min.name).before _ s = true := hts _ (List.mem_cons_of_mem _ (List.mem_append_left _ (List.mem_of_getElem? (i := 2) rfl)))
  have q5 : (Cond.static Lib.Math.min.name).before _ s = true := hts _ (List.mem_cons_of_mem _ (List.mem_append_left _ (List.mem_of_getElem? (i := 3) rfl)))
  have q6 : (Cond.initialized "java/lang/Math").before _ s = true := hts _ (List.mem_cons_of_mem _ (List.mem_append_left _ (List.mem_of_getElem? (i := 4) rfl)))
  have q7 : (Cond.code Lib.Math.min.name Lib.Math.min.code 2 (some .int)).before _ s = true := hts _ (List.mem_cons_of_mem _ (List.mem_append_left _ (List.mem_of_getElem? (i := 5) rfl)))
  have q8 : (Cond.classLink RX2 9 RX1).before _ s = true := hts _ (List.mem_cons_of_mem _ (List.mem_append_left _ (List.mem_of_getElem? (i := 6) rfl)))
  refine lv_aload_n hx hb dX2_makeRoom_0 rfl (lv_at hl 0 rfl) ?_
  obtain ⟨g1, h⟩ := h
  refine xr_getI (ci := 2) (C := RX2) (T := TX2) (N := 3) hx hb hL2 hown hK hh g1 (by decide) rfl 2 42 rfl rfl (by decide) (by decide) q2 (fun _ h9 => h9) dX2_makeRoom_1 ?_
  refine lv_aload_n hx hb dX2_makeRoom_4 rfl (lv_at hl 0 rfl) ?_
  obtain ⟨g2, h⟩ := h
  obtain ⟨b3, eb3, h⟩ := h
  refine xr_getR (ci := 2) (C := RX2) (T := TX2) (N := 3) hx hb hL2 hown hK hh g2 (by decide) rfl 1 41 rfl rfl (by decide) (by decide) q3 (fun _ h9 => h9) eb3 dX2_makeRoom_5 ?_
  obtain ⟨g4, h⟩ := h
  refine xr_qlen hx hb hK hh g4 dX2_makeRoom_8 ?_
  refine lv_icmp_ge (tgt := 13) hx hb dX2_makeRoom_9 (by decide) (fun c5 => ?_) (fun c5 => ?_)
  · replace h := h.1 c5
    refine lv_iconst (v := 2) hx hb dX2_makeRoom_13 (by decide) ?_
    refine lv_aload_n hx hb dX2_makeRoom_14 rfl (lv_at hl 0 rfl) ?_
    obtain ⟨g6, h⟩ := h
    obtain ⟨b7, eb7, h⟩ := h
    refine xr_getR (ci := 2) (C := RX2) (T := TX2) (N := 3) hx hb hL2 hown hK hh g6 (by decide) rfl 1 41 rfl rfl (by decide) (by decide) q3 (fun _ h9 => h9) eb7 dX2_makeRoom_15 ?_
    obtain ⟨g8, h⟩ := h
    refine xr_qlen hx hb hK hh g8 dX2_makeRoom_18 ?_
    refine lv_imul hx hb dX2_makeRoom_19 ?_
    refine lv_sipush (v := 16384) hx hb dX2_makeRoom_20 (by decide) ?_
    refine va_mmin hx hb (hml.trans hl.1.symm) hown q4 q5 q6 q7 (Nat.le_of_ble_eq_true rfl) (Nat.le_of_ble_eq_true rfl) (by show _ ≤ kc; omega) (by show _ ≤ ks; omega) dX2_makeRoom_23 ?_
    refine lv_topi (fun x10 ex10 => ?_)
    replace h := h x10 ex10
    obtain ⟨g11, g12, h⟩ := h
    obtain ⟨g13, g14, h⟩ := h
    refine xr_newq hx hb hown q8 hX.2.2.2.2.2.1 hK hh hS hbase (n := x10) (N' := x10.toNatClampNeg) g11 rfl g12 (by show _ ≤ kc; omega) (by show _ ≤ ks; omega) dX2_makeRoom_26 (fun a9 H ga9 gba9 hh hS => ?_)
    replace h := h a9 ga9
    obtain ⟨m15, em15⟩ : ∃ z : MM, z = nw m0 14 x10.toNatClampNeg a9 := ⟨_, rfl⟩
    rw [← em15] at hh
    replace h := h m15 em15
    obtain ⟨kc16, ekc16⟩ : ∃ z : Nat, z = kc - 1 := ⟨_, rfl⟩
    obtain ⟨ks17, eks17⟩ : ∃ z : Nat, z = ks - x10.toNatClampNeg := ⟨_, rfl⟩
    replace h := h kc16 ks17 ekc16 eks17
    obtain ⟨cl18, ecl18⟩ : ∃ z : Nat, z = 0 + 1 := ⟨_, rfl⟩
    obtain ⟨sl19, esl19⟩ : ∃ z : Nat, z = 0 + x10.toNatClampNeg := ⟨_, rfl⟩
    refine W_cs ecl18 esl19 ?_
    have hcc : cl18 + kc16 ≤ kc := by omega
    have hss : sl19 + ks17 ≤ ks := by omega
    refine lv_astore_n (lv' := [(1, .ref a9), (0, .ref a0)]) hx hb dX2_makeRoom_29 rfl hl (by decide) rfl (fun ls hl => ?_)
    refine lv_iconst (v := 0) hx hb dX2_makeRoom_30 (by decide) ?_
    refine lv_topi (fun x20 ex20 => ?_)
    replace h := h x20 ex20
    refine lv_istore_n (lv' := [(2, .int x20), (1, .ref a9), (0, .ref a0)]) hx hb dX2_makeRoom_31 rfl hl (by decide) rfl (fun ls hl => ?_)
    obtain ⟨n9, h⟩ := h
    exact bk_X2_makeRoom_32 C0  n9 _ _ _ _ _ _ _ cl18 sl19 kc16 ks17 hcc hss h hh hS (lv_sub hl [2, 1, 0] rfl)
  · replace h := h.2 c5
    exact (xe_v hx hb hr hlocks hbase hh hK hX hS h (by omega) (by omega) dX2_makeRoom_12)

set_option maxHeartbeats 4000000 in
set_option maxRecDepth 100000 in
theorem bk_X2_findOrMake_81 {p : Program} {l : Launch} {e : Env} {s : State} {m : MethodId} {args : Array Value} {below : List Frame} {meth : Method} {c : Code} {G : GG} {base : Nat} {MC MS : Nat} (C0 : BC p s m args meth c G base RX2 cX2_findOrMake 6 (some (.object "RollupStore$Rollup")) wsX2_findOrMake) {Q : Option Nat → MM → Prop} : ∀ (n : Nat) (l0 : Nat) (l1 : Int32) (l2 : Int32) (l4 : Nat) (l5 : Int32) (m0 : MM) (H : Heap) (locs : List Loc) (ls : Array Slot) (cl9 sl9 kc ks : Nat) (hcc : cl9 + kc ≤ MC) (hss : sl9 + ks ≤ MS), wp_X2_findOrMake_81 Q n l0 l1 l2 l4 l5 m0 kc ks → hp G (xA base) m0 H → va_S (xA base) s.heap H locs → lv_has ls 6 [(0, .ref l0), (1, .int l1), (2, .int l2), (4, .ref l4), (5, .int l5)] → W p l e ({ frames := 2, cells := MC, slots := MS, locals := 92 } : Room) s m args below meth c H locs cl9 sl9 (MQ below (va_Qq Q (HB G base) (xA base)) args s MC MS (xA base)) (F0 m 81 ls []) := by
  obtain ⟨hx, hb, hr, hml, hown, hts, hlocks, hK, hbase, hX⟩ := id C0
  intro n
  induction n with
  | zero =>
    intro l0 l1 l2 l4 l5 m0 H locs ls cl9 sl9 kc ks hcc hss h
    unfold wp_X2_findOrMake_81 at h
    exact h.elim
  | succ n ih =>
    intro l0 l1 l2 l4 l5 m0 H locs ls cl9 sl9 kc ks hcc hss h hh hS hl
    unfold wp_X2_findOrMake_81 at h
    have hL2 : ∀ w ∈ u_ws RX2 TX2 3, w.before _ s = true := fun w h9 => hts w (List.mem_cons_of_mem _ (List.mem_append_right _ (h9)))
    have q2 : (Cond.fieldLink RX2 11 "RollupStore$Rollups" "rows" "[LRollupStore$Rollup;").before _ s = true := hts _ (List.mem_cons_of_mem _ (List.mem_append_left _ (List.mem_append_left _ (List.mem_append_left _ (List.mem_of_getElem? (i := 2) rfl)))))
    have hL1 : ∀ w ∈ u_ws RX1 TX1 8, w.before _ s = true := fun w h9 => hts w (List.mem_cons_of_mem _ (List.mem_append_left _ (List.mem_append_right _ (h9))))
    have q4 : (Cond.fieldLink RX2 25 "RollupStore$Rollup" "begin" "I").before _ s = true := hts _ (List.mem_cons_of_mem _ (List.mem_append_left _ (List.mem_append_left _ (List.mem_append_left _ (List.mem_of_getElem? (i := 0) rfl)))))
    have q5 : (Cond.fieldLink RX2 28 "RollupStore$Rollups" "kept" "I").before _ s = true := hts _ (List.mem_cons_of_mem _ (List.mem_append_left _ (List.mem_append_left _ (List.mem_append_left _ (List.mem_of_getElem? (i := 1) rfl)))))
    refine lv_iload hx hb dX2_findOrMake_81 (lv_at hl 4 rfl) ?_
    refine lv_iload_n hx hb dX2_findOrMake_83 rfl (lv_at hl 2 rfl) ?_
    refine lv_icmp_le (tgt := 109) hx hb dX2_findOrMake_84 (by decide) (fun c40 => ?_) (fun c40 => ?_)
    · replace h := h.1 c40
      refine lv_aload_n hx hb dX2_findOrMake_109 rfl (lv_at hl 0 rfl) ?_
      obtain ⟨g41, h⟩ := h
      obtain ⟨b42, eb42, h⟩ := h
      refine xr_getR (ci := 2) (C := RX2) (T := TX2) (N := 3) hx hb hL2 hown hK hh g41 (by decide) rfl 1 41 rfl rfl (by decide) (by decide) q2 (fun _ h9 => h9) eb42 dX2_findOrMake_110 ?_
      refine lv_iload_n hx hb dX2_findOrMake_113 rfl (lv_at hl 2 rfl) ?_
      refine lv_aload hx hb dX2_findOrMake_114 (lv_at hl 3 rfl) ?_
      obtain ⟨g43, h⟩ := h
      obtain ⟨g44, h⟩ := h
      obtain ⟨g45, h⟩ := h
      refine xr_qast hx hb hK hh g43 hS g45 g44 dX2_findOrMake_116 (fun H locs hh hS => ?_)
      obtain ⟨m46, em46⟩ : ∃ z : MM, z = sAR m0 b42 (va_up (mAR m0 b42) l2.toNatClampNeg (some l4)) := ⟨_, rfl⟩
      rw [← em46] at hh
      replace h := h m46 em46
      refine lv_aload hx hb dX2_findOrMake_117 (lv_at hl 3 rfl) ?_
      refine lv_iload_n hx hb dX2_findOrMake_119 rfl (lv_at hl 1 rfl) ?_
      obtain ⟨g47, h⟩ := h
      refine xr_putI (ci := 1) (C := RX1) (T := TX1) (N := 8) hx hb hL1 hown hK hh g47 (by decide) rfl 0 20 rfl rfl (by decide) (by decide) q4 (fun _ h9 => h9) tyX1 tyX1_ok nmX1 rfl rfl rfl hS dX2_findOrMake_120 (fun H locs hh hS => ?_)
      obtain ⟨m48, em48⟩ : ∃ z : MM, z = sI m46 20 l4 l1 := ⟨_, rfl⟩
      rw [← em48] at hh
      replace h := h m48 em48
      refine lv_aload_n hx hb dX2_findOrMake_123 rfl (lv_at hl 0 rfl) ?_
      refine lv_dup hx hb dX2_findOrMake_124 rfl ?_
      obtain ⟨g49, h⟩ := h
      refine xr_getI (ci := 2) (C := RX2) (T := TX2) (N := 3) hx hb hL2 hown hK hh g49 (by decide) rfl 2 42 rfl rfl (by decide) (by decide) q5 (fun _ h9 => h9) dX2_findOrMake_125 ?_
      refine lv_iconst (v := 1) hx hb dX2_findOrMake_128 (by decide) ?_
      refine lv_iadd hx hb dX2_findOrMake_129 ?_
      obtain ⟨g50, h⟩ := h
      refine xr_putI (ci := 2) (C := RX2) (T := TX2) (N := 3) hx hb hL2 hown hK hh g50 (by decide) rfl 2 42 rfl rfl (by decide) (by decide) q5 (fun _ h9 => h9) tyX2 tyX2_ok nmX2 rfl rfl rfl hS dX2_findOrMake_130 (fun H locs hh hS => ?_)
      obtain ⟨m51, em51⟩ : ∃ z : MM, z = sI m48 42 l0 ((mI m48 42 l0) + (1 : Int32)) := ⟨_, rfl⟩
      rw [← em51] at hh
      replace h := h m51 em51
      refine lv_aload hx hb dX2_findOrMake_133 (lv_at hl 3 rfl) ?_
      exact (xe_q (v := (some l4)) hx hb hr hlocks hbase hh hK hX hS h (by omega) (by omega) dX2_findOrMake_135)
    · replace h := h.2 c40
      refine lv_aload_n hx hb dX2_findOrMake_87 rfl (lv_at hl 0 rfl) ?_
      obtain ⟨g52, h⟩ := h
      obtain ⟨b53, eb53, h⟩ := h
      refine xr_getR (ci := 2) (C := RX2) (T := TX2) (N := 3) hx hb hL2 hown hK hh g52 (by decide) rfl 1 41 rfl rfl (by decide) (by decide) q2 (fun _ h9 => h9) eb53 dX2_findOrMake_88 ?_
      refine lv_iload hx hb dX2_findOrMake_91 (lv_at hl 4 rfl) ?_
      refine lv_aload_n hx hb dX2_findOrMake_93 rfl (lv_at hl 0 rfl) ?_
      obtain ⟨g54, h⟩ := h
      obtain ⟨b55, eb55, h⟩ := h
      refine xr_getR (ci := 2) (C := RX2) (T := TX2) (N := 3) hx hb hL2 hown hK hh g54 (by decide) rfl 1 41 rfl rfl (by decide) (by decide) q2 (fun _ h9 => h9) eb55 dX2_findOrMake_94 ?_
      refine lv_iload hx hb dX2_findOrMake_97 (lv_at hl 4 rfl) ?_
      refine lv_iconst (v := 1) hx hb dX2_findOrMake_99 (by decide) ?_
      refine lv_isub hx hb dX2_findOrMake_100 ?_
      obtain ⟨g56, h⟩ := h
      obtain ⟨g57, h⟩ := h
      refine xr_qald hx hb hK hh g56 g57 dX2_findOrMake_101 (fun o58 eo58 => ?_)
      replace h := h o58 eo58
      obtain ⟨b59, eb59, h⟩ := h
      rw [eb59]
      refine W.eq (g2 := F0 m 102 ls [.ref b59, .int l5, .ref b53]) rfl ?_
      obtain ⟨g60, h⟩ := h
      obtain ⟨g61, h⟩ := h
      obtain ⟨g62, h⟩ := h
      refine xr_qast hx hb hK hh g60 hS g62 g61 dX2_findOrMake_102 (fun H locs hh hS => ?_)
      obtain ⟨m63, em63⟩ : ∃ z : MM, z = sAR m0 b53 (va_up (mAR m0 b53) l5.toNatClampNeg (some b59)) := ⟨_, rfl⟩
      rw [← em63] at hh
      replace h := h m63 em63
      obtain ⟨x64, ex64⟩ : ∃ y : Int32, y = l5 + (-1) := ⟨_, rfl⟩
      replace h := h x64 ex64
      refine lv_iinc (v := x64) (lv' := [(5, .int x64), (0, .ref l0), (1, .int l1), (2, .int l2), (4, .ref l4)]) hx hb dX2_findOrMake_103 hl (k := 4) rfl (by rw [ex64]; rfl) (by decide) rfl (fun ls hl => ?_)
      refine lv_goto (tgt := 81) hx hb dX2_findOrMake_106 (by decide) ?_
      exact ih _ _ _ _ _ _ _ _ _ cl9 sl9 kc ks hcc hss h hh hS (lv_sub hl [1, 2, 3, 4, 0] rfl)

set_option maxHeartbeats 4000000 in
set_option maxRecDepth 100000 in
theorem mt_X2_findOrMake (l : Launch) (G : GG) (base : Nat) {a0 : Nat} {p1 : Int32} {m0 : MM} {Q : Option Nat → MM → Prop} {kc ks : Nat} (h : wp_X2_findOrMake a0 p1 m0 Q kc ks) : Met l yX2_findOrMake wsX2_findOrMake ({ frames := 2, cells := kc, slots := ks, locals := 92 }) (va_Pc [.ref a0, .int p1] (SP G base m0)) (va_Qq Q (HB G base) (xA base)) kc ks (xA base) := by
  refine Met.ofW (cc := cX2_findOrMake) (maxL := 6) (ret := (some (.object "RollupStore$Rollup"))) (by decide) rfl ?_
  intro p e s m args below meth c s₁ B hml hv
  obtain ⟨rfl, hbase, hh, hK, hX⟩ := hv
  have C0 : BC p s m _ meth c G base RX2 cX2_findOrMake 6 (some (.object "RollupStore$Rollup")) wsX2_findOrMake := ⟨B.exec, B.bytes, B.returns, hml, findClass_of_methodNamed B.named, atoms_spec (ws := wsX2_findOrMake) B.pre, B.notSynchronized, hK, hbase, hX⟩
  obtain ⟨hx, hb, hr, -, hown, hts, hlocks, -, -, -⟩ := id C0
  have hS : va_S (xA base) s.heap s.heap [] := va_S.rf
  have hl := lv_entry ([.ref a0, .int p1]) (n := 6) (Nat.le_of_ble_eq_true rfl)
  rw [lg_entry_eq]
  generalize (lg_sl ([.ref a0, .int p1]) ++ List.replicate (6 - (lg_sl ([.ref a0, .int p1])).length) Slot.unset).toArray = ls at hl ⊢
  have hl : lv_has ls 6 [(0, .ref a0), (1, .int p1)] := hl
  unfold wp_X2_findOrMake at h
  have hcc : 0 + kc ≤ kc := by omega
  have hss : 0 + ks ≤ ks := by omega
  have hL2 : ∀ w ∈ u_ws RX2 TX2 3, w.before _ s = true := fun w h9 => hts w (List.mem_cons_of_mem _ (List.mem_append_right _ (h9)))
  have q2 : (Cond.fieldLink RX2 28 "RollupStore$Rollups" "kept" "I").before _ s = true := hts _ (List.mem_cons_of_mem _ (List.mem_append_left _ (List.mem_append_left _ (List.mem_append_left _ (List.mem_of_getElem? (i := 1) rfl)))))
  have q3 : (Cond.fieldLink RX2 11 "RollupStore$Rollups" "rows" "[LRollupStore$Rollup;").before _ s = true := hts _ (List.mem_cons_of_mem _ (List.mem_append_left _ (List.mem_append_left _ (List.mem_append_left _ (List.mem_of_getElem? (i := 2) rfl)))))
  have hL1 : ∀ w ∈ u_ws RX1 TX1 8, w.before _ s = true := fun w h9 => hts w (List.mem_cons_of_mem _ (List.mem_append_left _ (List.mem_append_right _ (h9))))
  have q5 : (Cond.classLink RX2 9 RX1).before _ s = true := hts _ (List.mem_cons_of_mem _ (List.mem_append_left _ (List.mem_append_left _ (List.mem_append_left _ (List.mem_of_getElem? (i := 3) rfl)))))
  have q6 : (Cond.instantiable RX1 8).before _ s = true := hts _ (List.mem_cons_of_mem _ (List.mem_append_left _ (List.mem_append_left _ (List.mem_append_left _ (List.mem_of_getElem? (i := 4) rfl)))))
  have q7 : (Cond.initialized RX1).before _ s = true := hts _ (List.mem_cons_of_mem _ (List.mem_append_left _ (List.mem_append_left _ (List.mem_append_left _ (List.mem_of_getElem? (i := 5) rfl)))))
  have q8 : (Cond.instanceMethod yX1_init).before _ s = true := hts _ (List.mem_cons_of_mem _ (List.mem_append_left _ (List.mem_append_left _ (List.mem_append_left _ (List.mem_of_getElem? (i := 23) rfl)))))
  have q9 : (Cond.fieldLink RX2 25 "RollupStore$Rollup" "begin" "I").before _ s = true := hts _ (List.mem_cons_of_mem _ (List.mem_append_left _ (List.mem_append_left _ (List.mem_append_left _ (List.mem_of_getElem? (i := 0) rfl)))))
  refine lv_aload_n hx hb dX2_findOrMake_0 rfl (lv_at hl 0 rfl) ?_
  refine lv_iload_n hx hb dX2_findOrMake_1 rfl (lv_at hl 1 rfl) ?_
  obtain ⟨g1, h⟩ := h
  refine xc_i (va_runV (As := [.int p1]) (rest := []) ⟨hx, hb, hml, hown, hts⟩ (mt_X2_placeFrom l G base h) (cwV 1 hts gX2_findOrMake_X2_placeFrom rfl rfl rfl (by decide +kernel) ⟨Nat.le_of_ble_eq_true rfl, Nat.le_of_ble_eq_true rfl⟩) (xp_V hbase hh hK hX hS (ci := 2) g1 (by decide) rfl) rfl rfl hl.1 rfl (lv_room (Nat.le_of_ble_eq_true rfl)) dX2_findOrMake_2 ⟨by show _ ≤ kc; omega, by show _ ≤ ks; omega⟩) hS (fun r2 m3 H locs h hh hS => ?_)
  refine lv_istore_n (lv' := [(2, .int r2), (0, .ref a0), (1, .int p1)]) hx hb dX2_findOrMake_5 rfl hl (by decide) rfl (fun ls hl => ?_)
  refine lv_aload_n hx hb dX2_findOrMake_6 rfl (lv_at hl 1 rfl) ?_
  refine lv_iload_n hx hb dX2_findOrMake_7 rfl (lv_at hl 0 rfl) ?_
  obtain ⟨g4, h⟩ := h
  refine xc_q (va_runV (As := [.int r2]) (rest := []) ⟨hx, hb, hml, hown, hts⟩ (mt_X2_rowOrNull l G base h) (cwV 1 hts gX2_findOrMake_X2_rowOrNull rfl rfl rfl (by decide +kernel) ⟨Nat.le_of_ble_eq_true rfl, Nat.le_of_ble_eq_true rfl⟩) (xp_V hbase hh hK hX hS (ci := 2) g4 (by decide) rfl) rfl rfl hl.1 rfl (lv_room (Nat.le_of_ble_eq_true rfl)) dX2_findOrMake_8 ⟨by show _ ≤ kc; omega, by show _ ≤ ks; omega⟩) hS (fun r5 m6 H locs h hh hS => ?_)
  rcases r5 with _ | b7
  · refine W.eq (g2 := F0 m 11 ls [.null]) rfl ?_
    replace h := h.1 rfl
    refine lv_astore_nN (lv' := [(3, .null), (2, .int r2), (0, .ref a0), (1, .int p1)]) hx hb dX2_findOrMake_11 rfl hl (by decide) rfl (fun ls hl => ?_)
    refine lv_aload_nN hx hb dX2_findOrMake_12 rfl (lv_at hl 0 rfl) ?_
    refine lv_ifnullN (tgt := 26) hx hb dX2_findOrMake_13 (by decide) ?_
    refine lv_aload_n hx hb dX2_findOrMake_26 rfl (lv_at hl 2 rfl) ?_
    obtain ⟨g8, h⟩ := h
    refine xr_getI (ci := 2) (C := RX2) (T := TX2) (N := 3) hx hb hL2 hown hK hh g8 (by decide) rfl 2 42 rfl rfl (by decide) (by decide) q2 (fun _ h9 => h9) dX2_findOrMake_27 ?_
    refine lv_sipush (v := 16384) hx hb dX2_findOrMake_30 (by decide) ?_
    refine lv_icmp_lt (tgt := 38) hx hb dX2_findOrMake_33 (by decide) (fun c9 => ?_) (fun c9 => ?_)
    · replace h := h.1 c9
      refine lv_aload_n hx hb dX2_findOrMake_38 rfl (lv_at hl 2 rfl) ?_
      obtain ⟨c10, s11, g12, g13, h⟩ := h
      obtain ⟨g14, h⟩ := h
      refine xc_v (va_runV (As := []) (rest := []) ⟨hx, hb, hml, hown, hts⟩ (mt_X2_makeRoom l G base h) (cwV 0 hts gX2_findOrMake_X2_makeRoom rfl rfl rfl (by decide +kernel) ⟨Nat.le_of_ble_eq_true rfl, Nat.le_of_ble_eq_true rfl⟩) (xp_V hbase hh hK hX hS (ci := 2) g14 (by decide) rfl) rfl rfl hl.1 rfl (lv_room (Nat.le_of_ble_eq_true rfl)) dX2_findOrMake_39 ⟨by show _ ≤ kc; omega, by show _ ≤ ks; omega⟩) hS (fun m16 H locs h hh hS => ?_)
      obtain ⟨kc17, ekc17⟩ : ∃ z : Nat, z = kc - c10 := ⟨_, rfl⟩
      obtain ⟨ks18, eks18⟩ : ∃ z : Nat, z = ks - s11 := ⟨_, rfl⟩
      replace h := h kc17 ks18 ekc17 eks18
      obtain ⟨cl19, ecl19⟩ : ∃ z : Nat, z = 0 + c10 := ⟨_, rfl⟩
      obtain ⟨sl20, esl20⟩ : ∃ z : Nat, z = 0 + s11 := ⟨_, rfl⟩
      refine W_cs ecl19 esl20 ?_
      have hcc : cl19 + kc17 ≤ kc := by omega
      have hss : sl20 + ks18 ≤ ks := by omega
      refine lv_aload_n hx hb dX2_findOrMake_42 rfl (lv_at hl 2 rfl) ?_
      obtain ⟨g21, h⟩ := h
      obtain ⟨b22, eb22, h⟩ := h
      refine xr_getR (ci := 2) (C := RX2) (T := TX2) (N := 3) hx hb hL2 hown hK hh g21 (by decide) rfl 1 41 rfl rfl (by decide) (by decide) q3 (fun _ h9 => h9) eb22 dX2_findOrMake_43 ?_
      refine lv_aload_n hx hb dX2_findOrMake_46 rfl (lv_at hl 2 rfl) ?_
      obtain ⟨g23, h⟩ := h
      refine xr_getI (ci := 2) (C := RX2) (T := TX2) (N := 3) hx hb hL2 hown hK hh g23 (by decide) rfl 2 42 rfl rfl (by decide) (by decide) q2 (fun _ h9 => h9) dX2_findOrMake_47 ?_
      obtain ⟨g24, h⟩ := h
      obtain ⟨g25, h⟩ := h
      refine xr_qald hx hb hK hh g24 g25 dX2_findOrMake_50 (fun o26 eo26 => ?_)
      replace h := h o26 eo26
      rcases o26 with _ | b27
      · refine W.eq (g2 := F0 m 51 ls [.null]) rfl ?_
        replace h := h.1 rfl
        refine lv_ifnonnullN hx hb dX2_findOrMake_51 ?_
        obtain ⟨g29, g30, h⟩ := h
        refine xr_new (ci := 1) (C := RX1) (T := TX1) (N := 8) hx hb hL1 tyX1 tyX1_ok hown q5 q6 q7 hK hh hS hbase (by decide) rfl xd_1 (by show _ ≤ kc; omega) (by show _ ≤ ks; omega) dX2_findOrMake_54 (fun a28 H ga28 gba28 hh hS => ?_)
        replace h := h a28 ga28
        obtain ⟨m31, em31⟩ : ∃ z : MM, z = nw m16 2 0 a28 := ⟨_, rfl⟩
        rw [← em31] at hh
        replace h := h m31 em31
        obtain ⟨kc32, ekc32⟩ : ∃ z : Nat, z = kc17 - 1 := ⟨_, rfl⟩
        obtain ⟨ks33, eks33⟩ : ∃ z : Nat, z = ks18 - 8 := ⟨_, rfl⟩
        replace h := h kc32 ks33 ekc32 eks33
        obtain ⟨cl34, ecl34⟩ : ∃ z : Nat, z = cl19 + 1 := ⟨_, rfl⟩
        obtain ⟨sl35, esl35⟩ : ∃ z : Nat, z = sl20 + 8 := ⟨_, rfl⟩
        refine W_cs ecl34 esl35 ?_
        have hcc : cl34 + kc32 ≤ kc := by omega
        have hss : sl35 + ks33 ≤ ks := by omega
        refine lv_dup hx hb dX2_findOrMake_57 rfl ?_
        refine xc_v (va_runIN (As := []) (rest := [.ref a28]) ⟨hx, hb, hml, hown, hts⟩ (mt_X1_init l G base h) ⟨va_cnB 0 hts gX2_findOrMake_X1_init_n38 rfl rfl rfl (hX.2.2.2.2.2.2.2.1 _ (List.mem_of_getElem? (i := 4) rfl)) q7 (by decide +kernel) ⟨Nat.le_of_ble_eq_true rfl, Nat.le_of_ble_eq_true rfl⟩, rfl, q8⟩ (xp_S hbase hh hK hX hS) rfl rfl hl.1 rfl (lv_room (Nat.le_of_ble_eq_true rfl)) dX2_findOrMake_58 ⟨by show _ ≤ kc; omega, by show _ ≤ ks; omega⟩) hS (fun m37 H locs h hh hS => ?_)
        refine lv_goto (tgt := 73) hx hb dX2_findOrMake_61 (by decide) ?_
        refine lv_astore (lv' := [(4, .ref a28), (3, .null), (2, .int r2), (0, .ref a0), (1, .int p1)]) hx hb dX2_findOrMake_73 hl (by decide) rfl (fun ls hl => ?_)
        refine lv_aload_n hx hb dX2_findOrMake_75 rfl (lv_at hl 3 rfl) ?_
        obtain ⟨g38, h⟩ := h
        refine xr_getI (ci := 2) (C := RX2) (T := TX2) (N := 3) hx hb hL2 hown hK hh g38 (by decide) rfl 2 42 rfl rfl (by decide) (by decide) q2 (fun _ h9 => h9) dX2_findOrMake_76 ?_
        refine lv_topi (fun x39 ex39 => ?_)
        replace h := h x39 ex39
        refine lv_istore (lv' := [(5, .int x39), (4, .ref a28), (3, .null), (2, .int r2), (0, .ref a0), (1, .int p1)]) hx hb dX2_findOrMake_79 hl (by decide) rfl (fun ls hl => ?_)
        obtain ⟨n9, h⟩ := h
        exact bk_X2_findOrMake_81 C0  n9 _ _ _ _ _ _ _ _ _ cl34 sl35 kc32 ks33 hcc hss h hh hS (lv_sub hl [4, 5, 3, 1, 0] rfl)
      · refine W.eq (g2 := F0 m 51 ls [.ref b27]) rfl ?_
        replace h := h.2 b27 rfl
        refine lv_ifnonnull (tgt := 64) hx hb dX2_findOrMake_51 (by decide) ?_
        refine lv_aload_n hx hb dX2_findOrMake_64 rfl (lv_at hl 2 rfl) ?_
        obtain ⟨g65, h⟩ := h
        obtain ⟨b66, eb66, h⟩ := h
        refine xr_getR (ci := 2) (C := RX2) (T := TX2) (N := 3) hx hb hL2 hown hK hh g65 (by decide) rfl 1 41 rfl rfl (by decide) (by decide) q3 (fun _ h9 => h9) eb66 dX2_findOrMake_65 ?_
        refine lv_aload_n hx hb dX2_findOrMake_68 rfl (lv_at hl 2 rfl) ?_
        obtain ⟨g67, h⟩ := h
        refine xr_getI (ci := 2) (C := RX2) (T := TX2) (N := 3) hx hb hL2 hown hK hh g67 (by decide) rfl 2 42 rfl rfl (by decide) (by decide) q2 (fun _ h9 => h9) dX2_findOrMake_69 ?_
        obtain ⟨g68, h⟩ := h
        obtain ⟨g69, h⟩ := h
        refine xr_qald hx hb hK hh g68 g69 dX2_findOrMake_72 (fun o70 eo70 => ?_)
        replace h := h o70 eo70
        obtain ⟨b71, eb71, h⟩ := h
        rw [eb71]
        refine W.eq (g2 := F0 m 73 ls [.ref b71]) rfl ?_
        refine lv_astore (lv' := [(4, .ref b71), (3, .null), (2, .int r2), (0, .ref a0), (1, .int p1)]) hx hb dX2_findOrMake_73 hl (by decide) rfl (fun ls hl => ?_)
        refine lv_aload_n hx hb dX2_findOrMake_75 rfl (lv_at hl 3 rfl) ?_
        obtain ⟨g72, h⟩ := h
        refine xr_getI (ci := 2) (C := RX2) (T := TX2) (N := 3) hx hb hL2 hown hK hh g72 (by decide) rfl 2 42 rfl rfl (by decide) (by decide) q2 (fun _ h9 => h9) dX2_findOrMake_76 ?_
        refine lv_topi (fun x73 ex73 => ?_)
        replace h := h x73 ex73
        refine lv_istore (lv' := [(5, .int x73), (4, .ref b71), (3, .null), (2, .int r2), (0, .ref a0), (1, .int p1)]) hx hb dX2_findOrMake_79 hl (by decide) rfl (fun ls hl => ?_)
        obtain ⟨n9, h⟩ := h
        exact bk_X2_findOrMake_81 C0  n9 _ _ _ _ _ _ _ _ _ cl19 sl20 kc17 ks18 hcc hss h hh hS (lv_sub hl [4, 5, 3, 1, 0] rfl)
    · replace h := h.2 c9
      refine lv_null hx hb dX2_findOrMake_36 ?_
      exact (xe_q (v := none) hx hb hr hlocks hbase hh hK hX hS h (by omega) (by omega) dX2_findOrMake_37)
  · refine W.eq (g2 := F0 m 11 ls [.ref b7]) rfl ?_
    replace h := h.2 b7 rfl
    refine lv_astore_n (lv' := [(3, .ref b7), (2, .int r2), (0, .ref a0), (1, .int p1)]) hx hb dX2_findOrMake_11 rfl hl (by decide) rfl (fun ls hl => ?_)
    refine lv_aload_n hx hb dX2_findOrMake_12 rfl (lv_at hl 0 rfl) ?_
    refine lv_ifnull hx hb dX2_findOrMake_13 ?_
    refine lv_aload_n hx hb dX2_findOrMake_16 rfl (lv_at hl 0 rfl) ?_
    obtain ⟨g74, h⟩ := h
    refine xr_getI (ci := 1) (C := RX1) (T := TX1) (N := 8) hx hb hL1 hown hK hh g74 (by decide) rfl 0 20 rfl rfl (by decide) (by decide) q9 (fun _ h9 => h9) dX2_findOrMake_17 ?_
    refine lv_iload_n hx hb dX2_findOrMake_20 rfl (lv_at hl 3 rfl) ?_
    refine lv_icmp_ne (tgt := 26) hx hb dX2_findOrMake_21 (by decide) (fun c75 => ?_) (fun c75 => ?_)
    · replace h := h.1 c75
      refine lv_aload_n hx hb dX2_findOrMake_26 rfl (lv_at hl 2 rfl) ?_
      obtain ⟨g76, h⟩ := h
      refine xr_getI (ci := 2) (C := RX2) (T := TX2) (N := 3) hx hb hL2 hown hK hh g76 (by decide) rfl 2 42 rfl rfl (by decide) (by decide) q2 (fun _ h9 => h9) dX2_findOrMake_27 ?_
      refine lv_sipush (v := 16384) hx hb dX2_findOrMake_30 (by decide) ?_
      refine lv_icmp_lt (tgt := 38) hx hb dX2_findOrMake_33 (by decide) (fun c77 => ?_) (fun c77 => ?_)
      · replace h := h.1 c77
        refine lv_aload_n hx hb dX2_findOrMake_38 rfl (lv_at hl 2 rfl) ?_
        obtain ⟨c78, s79, g80, g81, h⟩ := h
        obtain ⟨g82, h⟩ := h
        refine xc_v (va_runV (As := []) (rest := []) ⟨hx, hb, hml, hown, hts⟩ (mt_X2_makeRoom l G base h) (cwV 0 hts gX2_findOrMake_X2_makeRoom rfl rfl rfl (by decide +kernel) ⟨Nat.le_of_ble_eq_true rfl, Nat.le_of_ble_eq_true rfl⟩) (xp_V hbase hh hK hX hS (ci := 2) g82 (by decide) rfl) rfl rfl hl.1 rfl (lv_room (Nat.le_of_ble_eq_true rfl)) dX2_findOrMake_39 ⟨by show _ ≤ kc; omega, by show _ ≤ ks; omega⟩) hS (fun m84 H locs h hh hS => ?_)
        obtain ⟨kc85, ekc85⟩ : ∃ z : Nat, z = kc - c78 := ⟨_, rfl⟩
        obtain ⟨ks86, eks86⟩ : ∃ z : Nat, z = ks - s79 := ⟨_, rfl⟩
        replace h := h kc85 ks86 ekc85 eks86
        obtain ⟨cl87, ecl87⟩ : ∃ z : Nat, z = 0 + c78 := ⟨_, rfl⟩
        obtain ⟨sl88, esl88⟩ : ∃ z : Nat, z = 0 + s79 := ⟨_, rfl⟩
        refine W_cs ecl87 esl88 ?_
        have hcc : cl87 + kc85 ≤ kc := by omega
        have hss : sl88 + ks86 ≤ ks := by omega
        refine lv_aload_n hx hb dX2_findOrMake_42 rfl (lv_at hl 2 rfl) ?_
        obtain ⟨g89, h⟩ := h
        obtain ⟨b90, eb90, h⟩ := h
        refine xr_getR (ci := 2) (C := RX2) (T := TX2) (N := 3) hx hb hL2 hown hK hh g89 (by decide) rfl 1 41 rfl rfl (by decide) (by decide) q3 (fun _ h9 => h9) eb90 dX2_findOrMake_43 ?_
        refine lv_aload_n hx hb dX2_findOrMake_46 rfl (lv_at hl 2 rfl) ?_
        obtain ⟨g91, h⟩ := h
        refine xr_getI (ci := 2) (C := RX2) (T := TX2) (N := 3) hx hb hL2 hown hK hh g91 (by decide) rfl 2 42 rfl rfl (by decide) (by decide) q2 (fun _ h9 => h9) dX2_findOrMake_47 ?_
        obtain ⟨g92, h⟩ := h
        obtain ⟨g93, h⟩ := h
        refine xr_qald hx hb hK hh g92 g93 dX2_findOrMake_50 (fun o94 eo94 => ?_)
        replace h := h o94 eo94
        rcases o94 with _ | b95
        · refine W.eq (g2 := F0 m 51 ls [.null]) rfl ?_
          replace h := h.1 rfl
          refine lv_ifnonnullN hx hb dX2_findOrMake_51 ?_
          obtain ⟨g97, g98, h⟩ := h
          refine xr_new (ci := 1) (C := RX1) (T := TX1) (N := 8) hx hb hL1 tyX1 tyX1_ok hown q5 q6 q7 hK hh hS hbase (by decide) rfl xd_1 (by show _ ≤ kc; omega) (by show _ ≤ ks; omega) dX2_findOrMake_54 (fun a96 H ga96 gba96 hh hS => ?_)
          replace h := h a96 ga96
          obtain ⟨m99, em99⟩ : ∃ z : MM, z = nw m84 2 0 a96 := ⟨_, rfl⟩
          rw [← em99] at hh
          replace h := h m99 em99
          obtain ⟨kc100, ekc100⟩ : ∃ z : Nat, z = kc85 - 1 := ⟨_, rfl⟩
          obtain ⟨ks101, eks101⟩ : ∃ z : Nat, z = ks86 - 8 := ⟨_, rfl⟩
          replace h := h kc100 ks101 ekc100 eks101
          obtain ⟨cl102, ecl102⟩ : ∃ z : Nat, z = cl87 + 1 := ⟨_, rfl⟩
          obtain ⟨sl103, esl103⟩ : ∃ z : Nat, z = sl88 + 8 := ⟨_, rfl⟩
          refine W_cs ecl102 esl103 ?_
          have hcc : cl102 + kc100 ≤ kc := by omega
          have hss : sl103 + ks101 ≤ ks := by omega
          refine lv_dup hx hb dX2_findOrMake_57 rfl ?_
          refine xc_v (va_runIN (As := []) (rest := [.ref a96]) ⟨hx, hb, hml, hown, hts⟩ (mt_X1_init l G base h) ⟨va_cnB 0 hts gX2_findOrMake_X1_init_n38 rfl rfl rfl (hX.2.2.2.2.2.2.2.1 _ (List.mem_of_getElem? (i := 4) rfl)) q7 (by decide +kernel) ⟨Nat.le_of_ble_eq_true rfl, Nat.le_of_ble_eq_true rfl⟩, rfl, q8⟩ (xp_S hbase hh hK hX hS) rfl rfl hl.1 rfl (lv_room (Nat.le_of_ble_eq_true rfl)) dX2_findOrMake_58 ⟨by show _ ≤ kc; omega, by show _ ≤ ks; omega⟩) hS (fun m105 H locs h hh hS => ?_)
          refine lv_goto (tgt := 73) hx hb dX2_findOrMake_61 (by decide) ?_
          refine lv_astore (lv' := [(4, .ref a96), (3, .ref b7), (2, .int r2), (0, .ref a0), (1, .int p1)]) hx hb dX2_findOrMake_73 hl (by decide) rfl (fun ls hl => ?_)
          refine lv_aload_n hx hb dX2_findOrMake_75 rfl (lv_at hl 3 rfl) ?_
          obtain ⟨g106, h⟩ := h
          refine xr_getI (ci := 2) (C := RX2) (T := TX2) (N := 3) hx hb hL2 hown hK hh g106 (by decide) rfl 2 42 rfl rfl (by decide) (by decide) q2 (fun _ h9 => h9) dX2_findOrMake_76 ?_
          refine lv_topi (fun x107 ex107 => ?_)
          replace h := h x107 ex107
          refine lv_istore (lv' := [(5, .int x107), (4, .ref a96), (3, .ref b7), (2, .int r2), (0, .ref a0), (1, .int p1)]) hx hb dX2_findOrMake_79 hl (by decide) rfl (fun ls hl => ?_)
          obtain ⟨n9, h⟩ := h
          exact bk_X2_findOrMake_81 C0  n9 _ _ _ _ _ _ _ _ _ cl102 sl103 kc100 ks101 hcc hss h hh hS (lv_sub hl [4, 5, 3, 1, 0] rfl)
        · refine W.eq (g2 := F0 m 51 ls [.ref b95]) rfl ?_
          replace h := h.2 b95 rfl
          refine lv_ifnonnull (tgt := 64) hx hb dX2_findOrMake_51 (by decide) ?_
          refine lv_aload_n hx hb dX2_findOrMake_64 rfl (lv_at hl 2 rfl) ?_
          obtain ⟨g108, h⟩ := h
          obtain ⟨b109, eb109, h⟩ := h
          refine xr_getR (ci := 2) (C := RX2) (T := TX2) (N := 3) hx hb hL2 hown hK hh g108 (by decide) rfl 1 41 rfl rfl (by decide) (by decide) q3 (fun _ h9 => h9) eb109 dX2_findOrMake_65 ?_
          refine lv_aload_n hx hb dX2_findOrMake_68 rfl (lv_at hl 2 rfl) ?_
          obtain ⟨g110, h⟩ := h
          refine xr_getI (ci := 2) (C := RX2) (T := TX2) (N := 3) hx hb hL2 hown hK hh g110 (by decide) rfl 2 42 rfl rfl (by decide) (by decide) q2 (fun _ h9 => h9) dX2_findOrMake_69 ?_
          obtain ⟨g111, h⟩ := h
          obtain ⟨g112, h⟩ := h
          refine xr_qald hx hb hK hh g111 g112 dX2_findOrMake_72 (fun o113 eo113 => ?_)
          replace h := h o113 eo113
          obtain ⟨b114, eb114, h⟩ := h
          rw [eb114]
          refine W.eq (g2 := F0 m 73 ls [.ref b114]) rfl ?_
          refine lv_astore (lv' := [(4, .ref b114), (3, .ref b7), (2, .int r2), (0, .ref a0), (1, .int p1)]) hx hb dX2_findOrMake_73 hl (by decide) rfl (fun ls hl => ?_)
          refine lv_aload_n hx hb dX2_findOrMake_75 rfl (lv_at hl 3 rfl) ?_
          obtain ⟨g115, h⟩ := h
          refine xr_getI (ci := 2) (C := RX2) (T := TX2) (N := 3) hx hb hL2 hown hK hh g115 (by decide) rfl 2 42 rfl rfl (by decide) (by decide) q2 (fun _ h9 => h9) dX2_findOrMake_76 ?_
          refine lv_topi (fun x116 ex116 => ?_)
          replace h := h x116 ex116
          refine lv_istore (lv' := [(5, .int x116), (4, .ref b114), (3, .ref b7), (2, .int r2), (0, .ref a0), (1, .int p1)]) hx hb dX2_findOrMake_79 hl (by decide) rfl (fun ls hl => ?_)
          obtain ⟨n9, h⟩ := h
          exact bk_X2_findOrMake_81 C0  n9 _ _ _ _ _ _ _ _ _ cl87 sl88 kc85 ks86 hcc hss h hh hS (lv_sub hl [4, 5, 3, 1, 0] rfl)
      · replace h := h.2 c77
        refine lv_null hx hb dX2_findOrMake_36 ?_
        exact (xe_q (v := none) hx hb hr hlocks hbase hh hK hX hS h (by omega) (by omega) dX2_findOrMake_37)
    · replace h := h.2 c75
      refine lv_aload_n hx hb dX2_findOrMake_24 rfl (lv_at hl 0 rfl) ?_
      exact (xe_q (v := (some b7)) hx hb hr hlocks hbase hh hK hX hS h (by omega) (by omega) dX2_findOrMake_25)
