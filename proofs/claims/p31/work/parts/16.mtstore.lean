/-! EACH METHOD AS ITS wp SAYS: written by wip/whole/gen.py -/
set_option maxHeartbeats 4000000 in
set_option maxRecDepth 100000 in
theorem mt_X5_seriesAt (l : Launch) (hl9 : l.stackTraces = false) (G : GG) (base : Nat) {a0 : Nat} {p1 : Int32} {m0 : MM} {Q : Option Nat → MM → Prop} {X : Nat → MM → Prop} (h : wp_X5_seriesAt a0 p1 m0 Q X) : vx_Met l yX5_seriesAt wsX5_seriesAt ({ frames := 6, cells := 1, slots := 6, locals := 96 }) (va_Pc [.ref a0, .int p1] (SP G base m0)) (va_Qq Q (HB G base) (xA base)) (xX G base X) 1 6 (xA base) := by
  refine vx_ofW (cc := cX5_seriesAt) (maxL := 3) (ret := (some (.object "RollupStore$Series"))) (by decide) rfl ?_
  intro p e s m args below meth c s₁ B hml hout hv
  obtain ⟨rfl, hbase, hh, hK, hX⟩ := hv
  have C0 : BC p s m _ meth c G base RX5 cX5_seriesAt 3 (some (.object "RollupStore$Series")) wsX5_seriesAt := ⟨B.exec, B.bytes, B.returns, hml, findClass_of_methodNamed B.named, atoms_spec (ws := wsX5_seriesAt) B.pre, B.notSynchronized, hK, hbase, hX⟩
  obtain ⟨hx, hb, hr, -, hown, hts, hlocks, -, -, -⟩ := id C0
  have hS : va_S (xA base) s.heap s.heap [] := va_S.rf
  have hl := lv_entry ([.ref a0, .int p1]) (n := 3) (Nat.le_of_ble_eq_true rfl)
  rw [lg_entry_eq]
  generalize (lg_sl ([.ref a0, .int p1]) ++ List.replicate (3 - (lg_sl ([.ref a0, .int p1])).length) Slot.unset).toArray = ls at hl ⊢
  have hl : lv_has ls 3 [(0, .ref a0), (1, .int p1)] := hl
  unfold wp_X5_seriesAt at h
  have hW0 : ∀ w ∈ (vx_atS RX5 232 "java/lang/IndexOutOfBoundsException" ["java/lang/RuntimeException", "java/lang/Exception"]).filter goodWord, w.before _ s = true := fun w h9 => hts w (List.mem_cons_of_mem _ (List.mem_append_right _ (h9)))
  have q2 : (Cond.classLink RX5 228 "java/lang/IndexOutOfBoundsException").before _ s = true := hts _ (List.mem_cons_of_mem _ (List.mem_append_left _ (List.mem_append_left _ (List.mem_of_getElem? (i := 0) rfl))))
  have q3 : (Cond.initialized "java/lang/IndexOutOfBoundsException").before _ s = true := hts _ (List.mem_cons_of_mem _ (List.mem_append_left _ (List.mem_append_left _ (List.mem_of_getElem? (i := 1) rfl))))
  have hL5 : ∀ w ∈ u_ws RX5 TX5 7, w.before _ s = true := fun w h9 => hts w (List.mem_cons_of_mem _ (List.mem_append_left _ (List.mem_append_right _ (h9))))
  have q5 : (Cond.fieldLink RX5 43 "RollupStore" "howMany" "I").before _ s = true := hts _ (List.mem_cons_of_mem _ (List.mem_append_left _ (List.mem_append_left _ (List.mem_of_getElem? (i := 2) rfl))))
  have q6 : (Cond.fieldLink RX5 11 "RollupStore" "kept" "[LRollupStore$Series;").before _ s = true := hts _ (List.mem_cons_of_mem _ (List.mem_append_left _ (List.mem_append_left _ (List.mem_of_getElem? (i := 3) rfl))))
  refine lv_iload_n hx hb dX5_seriesAt_0 rfl (lv_at hl 1 rfl) ?_
  refine lv_if_lt (tgt := 12) hx hb dX5_seriesAt_1 (by decide) (fun c1 => ?_) (fun c1 => ?_)
  · replace h := h.1 c1
    refine lv_null hx hb dX5_seriesAt_12 ?_
    refine lv_goto (tgt := 22) hx hb dX5_seriesAt_13 (by decide) ?_
    refine lv_astore_nN (lv' := [(2, .null), (0, .ref a0), (1, .int p1)]) hx hb dX5_seriesAt_22 rfl hl (by decide) rfl (fun ls hl => ?_)
    refine lv_aload_nN hx hb dX5_seriesAt_23 rfl (lv_at hl 0 rfl) ?_
    refine lv_ifnonnullN hx hb dX5_seriesAt_24 ?_
    exact xe_throw0 (text := "there is no such series") (is := 230) hx hb hl9 hout hlocks hbase hh hX hS hown q2 q3 hW0 (List.mem_of_getElem? (i := 6) rfl) (hl.1.trans hml.symm) dX5_seriesAt_27 dX5_seriesAt_30 dX5_seriesAt_31 dX5_seriesAt_33 dX5_seriesAt_36 (Nat.le_of_ble_eq_true rfl) (Nat.le_of_ble_eq_true rfl) (Nat.le_of_ble_eq_true rfl) (Nat.le_of_ble_eq_true rfl) h (Nat.le_of_ble_eq_true rfl) (Nat.le_of_ble_eq_true rfl)
  · replace h := h.2 c1
    refine lv_iload_n hx hb dX5_seriesAt_4 rfl (lv_at hl 1 rfl) ?_
    refine lv_aload_n hx hb dX5_seriesAt_5 rfl (lv_at hl 0 rfl) ?_
    obtain ⟨g2, h⟩ := h
    refine xr_getI (ci := 5) (C := RX5) (T := TX5) (N := 7) hx hb hL5 hown hK hh g2 (by decide) rfl 1 101 rfl rfl (by decide) (by decide) q5 (fun _ h9 => h9) dX5_seriesAt_6 ?_
    refine lv_icmp_lt (tgt := 16) hx hb dX5_seriesAt_9 (by decide) (fun c3 => ?_) (fun c3 => ?_)
    · replace h := h.1 c3
      refine lv_aload_n hx hb dX5_seriesAt_16 rfl (lv_at hl 0 rfl) ?_
      obtain ⟨g4, h⟩ := h
      obtain ⟨b5, eb5, h⟩ := h
      refine xr_getR (ci := 5) (C := RX5) (T := TX5) (N := 7) hx hb hL5 hown hK hh g4 (by decide) rfl 0 100 rfl rfl (by decide) (by decide) q6 (fun _ h9 => h9) eb5 dX5_seriesAt_17 ?_
      refine lv_iload_n hx hb dX5_seriesAt_20 rfl (lv_at hl 1 rfl) ?_
      obtain ⟨g6, h⟩ := h
      obtain ⟨g7, h⟩ := h
      refine xr_sald hx hb hK hh g6 g7 dX5_seriesAt_21 (fun o8 eo8 => ?_)
      replace h := h o8 eo8
      obtain ⟨b9, eb9, h⟩ := h
      rw [eb9]
      refine W.eq (g2 := F0 m 22 ls [.ref b9]) rfl ?_
      refine lv_astore_n (lv' := [(2, .ref b9), (0, .ref a0), (1, .int p1)]) hx hb dX5_seriesAt_22 rfl hl (by decide) rfl (fun ls hl => ?_)
      refine lv_aload_n hx hb dX5_seriesAt_23 rfl (lv_at hl 0 rfl) ?_
      refine lv_ifnonnull (tgt := 37) hx hb dX5_seriesAt_24 (by decide) ?_
      refine lv_aload_n hx hb dX5_seriesAt_37 rfl (lv_at hl 0 rfl) ?_
      exact vx_ret (xe_q (v := (some b9)) hx hb hr hlocks hbase hh hK hX hS h (Nat.le_of_ble_eq_true rfl) (Nat.le_of_ble_eq_true rfl) dX5_seriesAt_38)
    · replace h := h.2 c3
      refine lv_null hx hb dX5_seriesAt_12 ?_
      refine lv_goto (tgt := 22) hx hb dX5_seriesAt_13 (by decide) ?_
      refine lv_astore_nN (lv' := [(2, .null), (0, .ref a0), (1, .int p1)]) hx hb dX5_seriesAt_22 rfl hl (by decide) rfl (fun ls hl => ?_)
      refine lv_aload_nN hx hb dX5_seriesAt_23 rfl (lv_at hl 0 rfl) ?_
      refine lv_ifnonnullN hx hb dX5_seriesAt_24 ?_
      exact xe_throw0 (text := "there is no such series") (is := 230) hx hb hl9 hout hlocks hbase hh hX hS hown q2 q3 hW0 (List.mem_of_getElem? (i := 6) rfl) (hl.1.trans hml.symm) dX5_seriesAt_27 dX5_seriesAt_30 dX5_seriesAt_31 dX5_seriesAt_33 dX5_seriesAt_36 (Nat.le_of_ble_eq_true rfl) (Nat.le_of_ble_eq_true rfl) (Nat.le_of_ble_eq_true rfl) (Nat.le_of_ble_eq_true rfl) h (Nat.le_of_ble_eq_true rfl) (Nat.le_of_ble_eq_true rfl)

set_option maxHeartbeats 4000000 in
set_option maxRecDepth 100000 in
theorem mtq_X5_seriesAt (l : Launch) (G : GG) (base : Nat) {a0 : Nat} {p1 : Int32} {m0 : MM} {Q : Option Nat → MM → Prop} (h : wp_X5_seriesAt a0 p1 m0 Q (fun _ _ => False)) : Met l yX5_seriesAt wsX5_seriesAt ({ frames := 6, cells := 0, slots := 0, locals := 96 }) (va_Pc [.ref a0, .int p1] (SP G base m0)) (va_Qq Q (HB G base) (xA base)) 0 0 (xA base) := by
  refine Met.ofW (cc := cX5_seriesAt) (maxL := 3) (ret := (some (.object "RollupStore$Series"))) (by decide) rfl ?_
  intro p e s m args below meth c s₁ B hml hv
  obtain ⟨rfl, hbase, hh, hK, hX⟩ := hv
  have C0 : BC p s m _ meth c G base RX5 cX5_seriesAt 3 (some (.object "RollupStore$Series")) wsX5_seriesAt := ⟨B.exec, B.bytes, B.returns, hml, findClass_of_methodNamed B.named, atoms_spec (ws := wsX5_seriesAt) B.pre, B.notSynchronized, hK, hbase, hX⟩
  obtain ⟨hx, hb, hr, -, hown, hts, hlocks, -, -, -⟩ := id C0
  have hS : va_S (xA base) s.heap s.heap [] := va_S.rf
  have hl := lv_entry ([.ref a0, .int p1]) (n := 3) (Nat.le_of_ble_eq_true rfl)
  rw [lg_entry_eq]
  generalize (lg_sl ([.ref a0, .int p1]) ++ List.replicate (3 - (lg_sl ([.ref a0, .int p1])).length) Slot.unset).toArray = ls at hl ⊢
  have hl : lv_has ls 3 [(0, .ref a0), (1, .int p1)] := hl
  unfold wp_X5_seriesAt at h
  have hL5 : ∀ w ∈ u_ws RX5 TX5 7, w.before _ s = true := fun w h9 => hts w (List.mem_cons_of_mem _ (List.mem_append_left _ (List.mem_append_right _ (h9))))
  have q2 : (Cond.fieldLink RX5 43 "RollupStore" "howMany" "I").before _ s = true := hts _ (List.mem_cons_of_mem _ (List.mem_append_left _ (List.mem_append_left _ (List.mem_of_getElem? (i := 2) rfl))))
  have q3 : (Cond.fieldLink RX5 11 "RollupStore" "kept" "[LRollupStore$Series;").before _ s = true := hts _ (List.mem_cons_of_mem _ (List.mem_append_left _ (List.mem_append_left _ (List.mem_of_getElem? (i := 3) rfl))))
  refine lv_iload_n hx hb dX5_seriesAt_0 rfl (lv_at hl 1 rfl) ?_
  refine lv_if_lt (tgt := 12) hx hb dX5_seriesAt_1 (by decide) (fun c1 => ?_) (fun c1 => ?_)
  · replace h := h.1 c1
    refine lv_null hx hb dX5_seriesAt_12 ?_
    refine lv_goto (tgt := 22) hx hb dX5_seriesAt_13 (by decide) ?_
    refine lv_astore_nN (lv' := [(2, .null), (0, .ref a0), (1, .int p1)]) hx hb dX5_seriesAt_22 rfl hl (by decide) rfl (fun ls hl => ?_)
    refine lv_aload_nN hx hb dX5_seriesAt_23 rfl (lv_at hl 0 rfl) ?_
    refine lv_ifnonnullN hx hb dX5_seriesAt_24 ?_
    exact h.elim
  · replace h := h.2 c1
    refine lv_iload_n hx hb dX5_seriesAt_4 rfl (lv_at hl 1 rfl) ?_
    refine lv_aload_n hx hb dX5_seriesAt_5 rfl (lv_at hl 0 rfl) ?_
    obtain ⟨g2, h⟩ := h
    refine xr_getI (ci := 5) (C := RX5) (T := TX5) (N := 7) hx hb hL5 hown hK hh g2 (by decide) rfl 1 101 rfl rfl (by decide) (by decide) q2 (fun _ h9 => h9) dX5_seriesAt_6 ?_
    refine lv_icmp_lt (tgt := 16) hx hb dX5_seriesAt_9 (by decide) (fun c3 => ?_) (fun c3 => ?_)
    · replace h := h.1 c3
      refine lv_aload_n hx hb dX5_seriesAt_16 rfl (lv_at hl 0 rfl) ?_
      obtain ⟨g4, h⟩ := h
      obtain ⟨b5, eb5, h⟩ := h
      refine xr_getR (ci := 5) (C := RX5) (T := TX5) (N := 7) hx hb hL5 hown hK hh g4 (by decide) rfl 0 100 rfl rfl (by decide) (by decide) q3 (fun _ h9 => h9) eb5 dX5_seriesAt_17 ?_
      refine lv_iload_n hx hb dX5_seriesAt_20 rfl (lv_at hl 1 rfl) ?_
      obtain ⟨g6, h⟩ := h
      obtain ⟨g7, h⟩ := h
      refine xr_sald hx hb hK hh g6 g7 dX5_seriesAt_21 (fun o8 eo8 => ?_)
      replace h := h o8 eo8
      obtain ⟨b9, eb9, h⟩ := h
      rw [eb9]
      refine W.eq (g2 := F0 m 22 ls [.ref b9]) rfl ?_
      refine lv_astore_n (lv' := [(2, .ref b9), (0, .ref a0), (1, .int p1)]) hx hb dX5_seriesAt_22 rfl hl (by decide) rfl (fun ls hl => ?_)
      refine lv_aload_n hx hb dX5_seriesAt_23 rfl (lv_at hl 0 rfl) ?_
      refine lv_ifnonnull (tgt := 37) hx hb dX5_seriesAt_24 (by decide) ?_
      refine lv_aload_n hx hb dX5_seriesAt_37 rfl (lv_at hl 0 rfl) ?_
      exact (xe_q (v := (some b9)) hx hb hr hlocks hbase hh hK hX hS h (Nat.le_of_ble_eq_true rfl) (Nat.le_of_ble_eq_true rfl) dX5_seriesAt_38)
    · replace h := h.2 c3
      refine lv_null hx hb dX5_seriesAt_12 ?_
      refine lv_goto (tgt := 22) hx hb dX5_seriesAt_13 (by decide) ?_
      refine lv_astore_nN (lv' := [(2, .null), (0, .ref a0), (1, .int p1)]) hx hb dX5_seriesAt_22 rfl hl (by decide) rfl (fun ls hl => ?_)
      refine lv_aload_nN hx hb dX5_seriesAt_23 rfl (lv_at hl 0 rfl) ?_
      refine lv_ifnonnullN hx hb dX5_seriesAt_24 ?_
      exact h.elim

set_option maxHeartbeats 4000000 in
set_option maxRecDepth 100000 in
theorem mt_X5_needRange (l : Launch) (hl9 : l.stackTraces = false) (G : GG) (base : Nat) {p1 : Int32} {p2 : Int32} {p3 : Int32} {m0 : MM} {Q : MM → Prop} {X : Nat → MM → Prop} (h : wp_X5_needRange p1 p2 p3 m0 Q X) : vx_Met l yX5_needRange wsX5_needRange ({ frames := 6, cells := 1, slots := 6, locals := 96 }) (va_Pc [.int p1, .int p2, .int p3] (SP G base m0)) (va_Qv Q (HB G base) (xA base)) (xX G base X) 1 6 (xA base) := by
  refine vx_ofW (cc := cX5_needRange) (maxL := 3) (ret := none) (by decide) rfl ?_
  intro p e s m args below meth c s₁ B hml hout hv
  obtain ⟨rfl, hbase, hh, hK, hX⟩ := hv
  have C0 : BC p s m _ meth c G base RX5 cX5_needRange 3 none wsX5_needRange := ⟨B.exec, B.bytes, B.returns, hml, findClass_of_methodNamed B.named, atoms_spec (ws := wsX5_needRange) B.pre, B.notSynchronized, hK, hbase, hX⟩
  obtain ⟨hx, hb, hr, -, hown, hts, hlocks, -, -, -⟩ := id C0
  have hS : va_S (xA base) s.heap s.heap [] := va_S.rf
  have hl := lv_entry ([.int p1, .int p2, .int p3]) (n := 3) (Nat.le_of_ble_eq_true rfl)
  rw [lg_entry_eq]
  generalize (lg_sl ([.int p1, .int p2, .int p3]) ++ List.replicate (3 - (lg_sl ([.int p1, .int p2, .int p3])).length) Slot.unset).toArray = ls at hl ⊢
  have hl : lv_has ls 3 [(0, .int p1), (1, .int p2), (2, .int p3)] := hl
  unfold wp_X5_needRange at h
  have hW1 : ∀ w ∈ (vx_atS RX5 222 "java/lang/IllegalArgumentException" ["java/lang/RuntimeException", "java/lang/Exception"]).filter goodWord, w.before _ s = true := fun w h9 => hts w (List.mem_cons_of_mem _ (List.mem_append_right _ (h9)))
  have q2 : (Cond.classLink RX5 218 "java/lang/IllegalArgumentException").before _ s = true := hts _ (List.mem_cons_of_mem _ (List.mem_append_left _ (List.mem_of_getElem? (i := 0) rfl)))
  have q3 : (Cond.initialized "java/lang/IllegalArgumentException").before _ s = true := hts _ (List.mem_cons_of_mem _ (List.mem_append_left _ (List.mem_of_getElem? (i := 1) rfl)))
  refine lv_iload_n hx hb dX5_needRange_0 rfl (lv_at hl 0 rfl) ?_
  refine lv_iload_n hx hb dX5_needRange_1 rfl (lv_at hl 1 rfl) ?_
  refine lv_icmp_lt (tgt := 10) hx hb dX5_needRange_2 (by decide) (fun c1 => ?_) (fun c1 => ?_)
  · replace h := h.1 c1
    exact xe_throw1 (text := "an argument is out of range") (is := 233) hx hb hl9 hout hlocks hbase hh hX hS hown q2 q3 hW1 (List.mem_of_getElem? (i := 7) rfl) (hl.1.trans hml.symm) dX5_needRange_10 dX5_needRange_13 dX5_needRange_14 dX5_needRange_16 dX5_needRange_19 (Nat.le_of_ble_eq_true rfl) (Nat.le_of_ble_eq_true rfl) (Nat.le_of_ble_eq_true rfl) (Nat.le_of_ble_eq_true rfl) h (Nat.le_of_ble_eq_true rfl) (Nat.le_of_ble_eq_true rfl)
  · replace h := h.2 c1
    refine lv_iload_n hx hb dX5_needRange_5 rfl (lv_at hl 0 rfl) ?_
    refine lv_iload_n hx hb dX5_needRange_6 rfl (lv_at hl 2 rfl) ?_
    refine lv_icmp_le (tgt := 20) hx hb dX5_needRange_7 (by decide) (fun c2 => ?_) (fun c2 => ?_)
    · replace h := h.1 c2
      exact vx_ret (xe_v hx hb hr hlocks hbase hh hK hX hS h (Nat.le_of_ble_eq_true rfl) (Nat.le_of_ble_eq_true rfl) dX5_needRange_20)
    · replace h := h.2 c2
      exact xe_throw1 (text := "an argument is out of range") (is := 233) hx hb hl9 hout hlocks hbase hh hX hS hown q2 q3 hW1 (List.mem_of_getElem? (i := 7) rfl) (hl.1.trans hml.symm) dX5_needRange_10 dX5_needRange_13 dX5_needRange_14 dX5_needRange_16 dX5_needRange_19 (Nat.le_of_ble_eq_true rfl) (Nat.le_of_ble_eq_true rfl) (Nat.le_of_ble_eq_true rfl) (Nat.le_of_ble_eq_true rfl) h (Nat.le_of_ble_eq_true rfl) (Nat.le_of_ble_eq_true rfl)

set_option maxHeartbeats 4000000 in
set_option maxRecDepth 100000 in
theorem mtq_X5_needRange (l : Launch) (G : GG) (base : Nat) {p1 : Int32} {p2 : Int32} {p3 : Int32} {m0 : MM} {Q : MM → Prop} (h : wp_X5_needRange p1 p2 p3 m0 Q (fun _ _ => False)) : Met l yX5_needRange wsX5_needRange ({ frames := 6, cells := 0, slots := 0, locals := 96 }) (va_Pc [.int p1, .int p2, .int p3] (SP G base m0)) (va_Qv Q (HB G base) (xA base)) 0 0 (xA base) := by
  refine Met.ofW (cc := cX5_needRange) (maxL := 3) (ret := none) (by decide) rfl ?_
  intro p e s m args below meth c s₁ B hml hv
  obtain ⟨rfl, hbase, hh, hK, hX⟩ := hv
  have C0 : BC p s m _ meth c G base RX5 cX5_needRange 3 none wsX5_needRange := ⟨B.exec, B.bytes, B.returns, hml, findClass_of_methodNamed B.named, atoms_spec (ws := wsX5_needRange) B.pre, B.notSynchronized, hK, hbase, hX⟩
  obtain ⟨hx, hb, hr, -, hown, hts, hlocks, -, -, -⟩ := id C0
  have hS : va_S (xA base) s.heap s.heap [] := va_S.rf
  have hl := lv_entry ([.int p1, .int p2, .int p3]) (n := 3) (Nat.le_of_ble_eq_true rfl)
  rw [lg_entry_eq]
  generalize (lg_sl ([.int p1, .int p2, .int p3]) ++ List.replicate (3 - (lg_sl ([.int p1, .int p2, .int p3])).length) Slot.unset).toArray = ls at hl ⊢
  have hl : lv_has ls 3 [(0, .int p1), (1, .int p2), (2, .int p3)] := hl
  unfold wp_X5_needRange at h
  refine lv_iload_n hx hb dX5_needRange_0 rfl (lv_at hl 0 rfl) ?_
  refine lv_iload_n hx hb dX5_needRange_1 rfl (lv_at hl 1 rfl) ?_
  refine lv_icmp_lt (tgt := 10) hx hb dX5_needRange_2 (by decide) (fun c1 => ?_) (fun c1 => ?_)
  · replace h := h.1 c1
    exact h.elim
  · replace h := h.2 c1
    refine lv_iload_n hx hb dX5_needRange_5 rfl (lv_at hl 0 rfl) ?_
    refine lv_iload_n hx hb dX5_needRange_6 rfl (lv_at hl 2 rfl) ?_
    refine lv_icmp_le (tgt := 20) hx hb dX5_needRange_7 (by decide) (fun c2 => ?_) (fun c2 => ?_)
    · replace h := h.1 c2
      exact (xe_v hx hb hr hlocks hbase hh hK hX hS h (Nat.le_of_ble_eq_true rfl) (Nat.le_of_ble_eq_true rfl) dX5_needRange_20)
    · replace h := h.2 c2
      exact h.elim

set_option maxHeartbeats 4000000 in
set_option maxRecDepth 100000 in
theorem mt_X3_rollupsOf (l : Launch) (G : GG) (base : Nat) {a0 : Nat} {p1 : Int32} {m0 : MM} {Q : Option Nat → MM → Prop} (h : wp_X3_rollupsOf a0 p1 m0 Q) : Met l yX3_rollupsOf wsX3_rollupsOf ({ frames := 0, cells := 0, slots := 0, locals := 8 }) (va_Pc [.ref a0, .int p1] (SP G base m0)) (va_Qq Q (HB G base) (xA base)) 0 0 (xA base) := by
  refine Met.ofW (cc := cX3_rollupsOf) (maxL := 2) (ret := (some (.object "RollupStore$Rollups"))) (by decide) rfl ?_
  intro p e s m args below meth c s₁ B hml hv
  obtain ⟨rfl, hbase, hh, hK, hX⟩ := hv
  have C0 : BC p s m _ meth c G base RX3 cX3_rollupsOf 2 (some (.object "RollupStore$Rollups")) wsX3_rollupsOf := ⟨B.exec, B.bytes, B.returns, hml, findClass_of_methodNamed B.named, atoms_spec (ws := wsX3_rollupsOf) B.pre, B.notSynchronized, hK, hbase, hX⟩
  obtain ⟨hx, hb, hr, -, hown, hts, hlocks, -, -, -⟩ := id C0
  have hS : va_S (xA base) s.heap s.heap [] := va_S.rf
  have hl := lv_entry ([.ref a0, .int p1]) (n := 2) (Nat.le_of_ble_eq_true rfl)
  rw [lg_entry_eq]
  generalize (lg_sl ([.ref a0, .int p1]) ++ List.replicate (2 - (lg_sl ([.ref a0, .int p1])).length) Slot.unset).toArray = ls at hl ⊢
  have hl : lv_has ls 2 [(0, .ref a0), (1, .int p1)] := hl
  unfold wp_X3_rollupsOf at h
  have hL3 : ∀ w ∈ u_ws RX3 TX3 5, w.before _ s = true := fun w h9 => hts w (List.mem_cons_of_mem _ (List.mem_append_right _ (h9)))
  have q2 : (Cond.fieldLink RX3 23 "RollupStore$Series" "minutes" "LRollupStore$Rollups;").before _ s = true := hts _ (List.mem_cons_of_mem _ (List.mem_append_left _ (List.mem_of_getElem? (i := 2) rfl)))
  have q3 : (Cond.fieldLink RX3 27 "RollupStore$Series" "hours" "LRollupStore$Rollups;").before _ s = true := hts _ (List.mem_cons_of_mem _ (List.mem_append_left _ (List.mem_of_getElem? (i := 1) rfl)))
  have q4 : (Cond.fieldLink RX3 31 "RollupStore$Series" "days" "LRollupStore$Rollups;").before _ s = true := hts _ (List.mem_cons_of_mem _ (List.mem_append_left _ (List.mem_of_getElem? (i := 0) rfl)))
  refine lv_iload_n hx hb dX3_rollupsOf_0 rfl (lv_at hl 1 rfl) ?_
  refine lv_iconst (v := 3) hx hb dX3_rollupsOf_1 (by decide) ?_
  refine lv_icmp_ne (tgt := 12) hx hb dX3_rollupsOf_2 (by decide) (fun c1 => ?_) (fun c1 => ?_)
  · replace h := h.1 c1
    refine lv_iload_n hx hb dX3_rollupsOf_12 rfl (lv_at hl 1 rfl) ?_
    refine lv_iconst (v := 2) hx hb dX3_rollupsOf_13 (by decide) ?_
    refine lv_icmp_ne (tgt := 24) hx hb dX3_rollupsOf_14 (by decide) (fun c2 => ?_) (fun c2 => ?_)
    · replace h := h.1 c2
      refine lv_aload_n hx hb dX3_rollupsOf_24 rfl (lv_at hl 0 rfl) ?_
      obtain ⟨g3, h⟩ := h
      obtain ⟨b4, eb4, h⟩ := h
      refine xr_getR (ci := 3) (C := RX3) (T := TX3) (N := 5) hx hb hL3 hown hK hh g3 (by decide) rfl 2 62 rfl rfl (by decide) (by decide) q2 (fun _ h9 => h9) eb4 dX3_rollupsOf_25 ?_
      exact (xe_q (v := (some b4)) hx hb hr hlocks hbase hh hK hX hS h (Nat.le_of_ble_eq_true rfl) (Nat.le_of_ble_eq_true rfl) dX3_rollupsOf_28)
    · replace h := h.2 c2
      refine lv_aload_n hx hb dX3_rollupsOf_17 rfl (lv_at hl 0 rfl) ?_
      obtain ⟨g5, h⟩ := h
      obtain ⟨b6, eb6, h⟩ := h
      refine xr_getR (ci := 3) (C := RX3) (T := TX3) (N := 5) hx hb hL3 hown hK hh g5 (by decide) rfl 3 63 rfl rfl (by decide) (by decide) q3 (fun _ h9 => h9) eb6 dX3_rollupsOf_18 ?_
      refine lv_goto (tgt := 28) hx hb dX3_rollupsOf_21 (by decide) ?_
      exact (xe_q (v := (some b6)) hx hb hr hlocks hbase hh hK hX hS h (Nat.le_of_ble_eq_true rfl) (Nat.le_of_ble_eq_true rfl) dX3_rollupsOf_28)
  · replace h := h.2 c1
    refine lv_aload_n hx hb dX3_rollupsOf_5 rfl (lv_at hl 0 rfl) ?_
    obtain ⟨g7, h⟩ := h
    obtain ⟨b8, eb8, h⟩ := h
    refine xr_getR (ci := 3) (C := RX3) (T := TX3) (N := 5) hx hb hL3 hown hK hh g7 (by decide) rfl 4 64 rfl rfl (by decide) (by decide) q4 (fun _ h9 => h9) eb8 dX3_rollupsOf_6 ?_
    refine lv_goto (tgt := 28) hx hb dX3_rollupsOf_9 (by decide) ?_
    exact (xe_q (v := (some b8)) hx hb hr hlocks hbase hh hK hX hS h (Nat.le_of_ble_eq_true rfl) (Nat.le_of_ble_eq_true rfl) dX3_rollupsOf_28)

set_option maxHeartbeats 4000000 in
set_option maxRecDepth 100000 in
theorem mt_X3_rowsOf (l : Launch) (G : GG) (base : Nat) {a0 : Nat} {p1 : Int32} {m0 : MM} {Q : Int32 → MM → Prop} (h : wp_X3_rowsOf a0 p1 m0 Q) : Met l yX3_rowsOf wsX3_rowsOf ({ frames := 1, cells := 0, slots := 0, locals := 29 }) (va_Pc [.ref a0, .int p1] (SP G base m0)) (va_Qi Q (HB G base) (xA base)) 0 0 (xA base) := by
  refine Met.ofW (cc := cX3_rowsOf) (maxL := 2) (ret := (some .int)) (by decide) rfl ?_
  intro p e s m args below meth c s₁ B hml hv
  obtain ⟨rfl, hbase, hh, hK, hX⟩ := hv
  have C0 : BC p s m _ meth c G base RX3 cX3_rowsOf 2 (some .int) wsX3_rowsOf := ⟨B.exec, B.bytes, B.returns, hml, findClass_of_methodNamed B.named, atoms_spec (ws := wsX3_rowsOf) B.pre, B.notSynchronized, hK, hbase, hX⟩
  obtain ⟨hx, hb, hr, -, hown, hts, hlocks, -, -, -⟩ := id C0
  have hS : va_S (xA base) s.heap s.heap [] := va_S.rf
  have hl := lv_entry ([.ref a0, .int p1]) (n := 2) (Nat.le_of_ble_eq_true rfl)
  rw [lg_entry_eq]
  generalize (lg_sl ([.ref a0, .int p1]) ++ List.replicate (2 - (lg_sl ([.ref a0, .int p1])).length) Slot.unset).toArray = ls at hl ⊢
  have hl : lv_has ls 2 [(0, .ref a0), (1, .int p1)] := hl
  unfold wp_X3_rowsOf at h
  have hL2 : ∀ w ∈ u_ws RX2 TX2 3, w.before _ s = true := fun w h9 => hts w (List.mem_cons_of_mem _ (List.mem_append_right _ (h9)))
  have q2 : (Cond.fieldLink RX3 45 "RollupStore$Rollups" "kept" "I").before _ s = true := hts _ (List.mem_cons_of_mem _ (List.mem_append_left _ (List.mem_append_left _ (List.mem_append_left _ (List.mem_of_getElem? (i := 2) rfl)))))
  have hL3 : ∀ w ∈ u_ws RX3 TX3 5, w.before _ s = true := fun w h9 => hts w (List.mem_cons_of_mem _ (List.mem_append_left _ (List.mem_append_left _ (List.mem_append_right _ (h9)))))
  have q4 : (Cond.fieldLink RX3 12 "RollupStore$Series" "points" "LRollupStore$Points;").before _ s = true := hts _ (List.mem_cons_of_mem _ (List.mem_append_left _ (List.mem_append_left _ (List.mem_append_left _ (List.mem_of_getElem? (i := 0) rfl)))))
  have hL0 : ∀ w ∈ u_ws RX0 TX0 3, w.before _ s = true := fun w h9 => hts w (List.mem_cons_of_mem _ (List.mem_append_left _ (List.mem_append_right _ (h9))))
  have q6 : (Cond.fieldLink RX3 38 "RollupStore$Points" "kept" "I").before _ s = true := hts _ (List.mem_cons_of_mem _ (List.mem_append_left _ (List.mem_append_left _ (List.mem_append_left _ (List.mem_of_getElem? (i := 1) rfl)))))
  refine lv_iload_n hx hb dX3_rowsOf_0 rfl (lv_at hl 1 rfl) ?_
  refine lv_if_ne (tgt := 14) hx hb dX3_rowsOf_1 (by decide) (fun c1 => ?_) (fun c1 => ?_)
  · replace h := h.1 c1
    refine lv_aload_n hx hb dX3_rowsOf_14 rfl (lv_at hl 0 rfl) ?_
    refine lv_iload_n hx hb dX3_rowsOf_15 rfl (lv_at hl 1 rfl) ?_
    obtain ⟨g2, h⟩ := h
    refine xc_q (va_runV (As := [.int p1]) (rest := []) ⟨hx, hb, hml, hown, hts⟩ (mt_X3_rollupsOf l G base h) (cwV 1 hts gX3_rowsOf_X3_rollupsOf rfl rfl rfl (by decide +kernel) ⟨Nat.le_of_ble_eq_true rfl, Nat.le_of_ble_eq_true rfl⟩) (xp_V hbase hh hK hX hS (ci := 3) g2 (by decide) rfl) rfl rfl hl.1 rfl (lv_room (Nat.le_of_ble_eq_true rfl)) dX3_rowsOf_16 ⟨Nat.le_of_ble_eq_true rfl, Nat.le_of_ble_eq_true rfl⟩) hS (fun r3 m4 H locs h hh hS => ?_)
    obtain ⟨b5, eb5, h⟩ := h
    rw [eb5]
    refine W.eq (g2 := F0 m 19 ls [.ref b5]) rfl ?_
    obtain ⟨g6, h⟩ := h
    refine xr_getI (ci := 2) (C := RX2) (T := TX2) (N := 3) hx hb hL2 hown hK hh g6 (by decide) rfl 2 42 rfl rfl (by decide) (by decide) q2 (fun _ h9 => h9) dX3_rowsOf_19 ?_
    exact (xe_i hx hb hr hlocks hbase hh hK hX hS h (Nat.le_of_ble_eq_true rfl) (Nat.le_of_ble_eq_true rfl) dX3_rowsOf_22)
  · replace h := h.2 c1
    refine lv_aload_n hx hb dX3_rowsOf_4 rfl (lv_at hl 0 rfl) ?_
    obtain ⟨g7, h⟩ := h
    obtain ⟨b8, eb8, h⟩ := h
    refine xr_getR (ci := 3) (C := RX3) (T := TX3) (N := 5) hx hb hL3 hown hK hh g7 (by decide) rfl 1 61 rfl rfl (by decide) (by decide) q4 (fun _ h9 => h9) eb8 dX3_rowsOf_5 ?_
    obtain ⟨g9, h⟩ := h
    refine xr_getI (ci := 0) (C := RX0) (T := TX0) (N := 3) hx hb hL0 hown hK hh g9 (by decide) rfl 2 2 rfl rfl (by decide) (by decide) q6 (fun _ h9 => h9) dX3_rowsOf_8 ?_
    refine lv_goto (tgt := 22) hx hb dX3_rowsOf_11 (by decide) ?_
    exact (xe_i hx hb hr hlocks hbase hh hK hX hS h (Nat.le_of_ble_eq_true rfl) (Nat.le_of_ble_eq_true rfl) dX3_rowsOf_22)

set_option maxHeartbeats 4000000 in
set_option maxRecDepth 100000 in
theorem mt_X5_rows (l : Launch) (hl9 : l.stackTraces = false) (G : GG) (base : Nat) {a0 : Nat} {p1 : Int32} {p2 : Int32} {m0 : MM} {Q : Int32 → MM → Prop} {X : Nat → MM → Prop} (h : wp_X5_rows a0 p1 p2 m0 Q X) : vx_Met l yX5_rows wsX5_rows ({ frames := 7, cells := 2, slots := 12, locals := 118 }) (va_Pc [.ref a0, .int p1, .int p2] (SP G base m0)) (va_Qi Q (HB G base) (xA base)) (xX G base X) 2 12 (xA base) := by
  refine vx_ofW (cc := cX5_rows) (maxL := 4) (ret := (some .int)) (by decide) rfl ?_
  intro p e s m args below meth c s₁ B hml hout hv
  obtain ⟨rfl, hbase, hh, hK, hX⟩ := hv
  have C0 : BC p s m _ meth c G base RX5 cX5_rows 4 (some .int) wsX5_rows := ⟨B.exec, B.bytes, B.returns, hml, findClass_of_methodNamed B.named, atoms_spec (ws := wsX5_rows) B.pre, B.notSynchronized, hK, hbase, hX⟩
  obtain ⟨hx, hb, hr, -, hown, hts, hlocks, -, -, -⟩ := id C0
  have hS : va_S (xA base) s.heap s.heap [] := va_S.rf
  have hl := lv_entry ([.ref a0, .int p1, .int p2]) (n := 4) (Nat.le_of_ble_eq_true rfl)
  rw [lg_entry_eq]
  generalize (lg_sl ([.ref a0, .int p1, .int p2]) ++ List.replicate (4 - (lg_sl ([.ref a0, .int p1, .int p2])).length) Slot.unset).toArray = ls at hl ⊢
  have hl : lv_has ls 4 [(0, .ref a0), (1, .int p1), (2, .int p2)] := hl
  unfold wp_X5_rows at h
  refine lv_aload_n hx hb dX5_rows_0 rfl (lv_at hl 0 rfl) ?_
  refine lv_iload_n hx hb dX5_rows_1 rfl (lv_at hl 1 rfl) ?_
  obtain ⟨g1, h⟩ := h
  refine xt_q (vx_runV (As := [.int p1]) (rest := []) ⟨hx, hb, hml, hown, hts⟩ (mt_X5_seriesAt l hl9 G base h) (cwV 1 hts gX5_rows_X5_seriesAt rfl rfl rfl (by decide +kernel) ⟨Nat.le_of_ble_eq_true rfl, Nat.le_of_ble_eq_true rfl⟩) (xp_V hbase hh hK hX hS (ci := 5) g1 (by decide) rfl) rfl rfl hl.1 rfl (lv_room (Nat.le_of_ble_eq_true rfl)) dX5_rows_2 ⟨Nat.le_of_ble_eq_true rfl, Nat.le_of_ble_eq_true rfl⟩) hS (fun k9 m9 H locs q9 ce h hh hS hc9 hv9 hcl9 => xe_out hout hlocks hbase hh hK hX hS h hc9 hv9 hcl9 (Nat.le_of_ble_eq_true rfl) (Nat.le_of_ble_eq_true rfl)) (fun r2 m3 H locs h hh hS => ?_)
  obtain ⟨b4, eb4, h⟩ := h
  rw [eb4]
  refine W.eq (g2 := F0 m 5 ls [.ref b4]) rfl ?_
  refine lv_astore_n (lv' := [(3, .ref b4), (0, .ref a0), (1, .int p1), (2, .int p2)]) hx hb dX5_rows_5 rfl hl (by decide) rfl (fun ls hl => ?_)
  refine lv_iload_n hx hb dX5_rows_6 rfl (lv_at hl 3 rfl) ?_
  refine lv_iconst (v := 0) hx hb dX5_rows_7 (by decide) ?_
  refine lv_iconst (v := 3) hx hb dX5_rows_8 (by decide) ?_
  refine xt_v (vx_runS (As := [.int p2, .int (0 : Int32), .int (3 : Int32)]) (rest := []) ⟨hx, hb, hml, hown, hts⟩ (mt_X5_needRange l hl9 G base h) (va_cwS 3 hts gX5_rows_X5_needRange rfl rfl rfl (by decide +kernel) ⟨Nat.le_of_ble_eq_true rfl, Nat.le_of_ble_eq_true rfl⟩) (xp_S hbase hh hK hX hS) rfl rfl hl.1 rfl (lv_room (Nat.le_of_ble_eq_true rfl)) dX5_rows_9 ⟨Nat.le_of_ble_eq_true rfl, Nat.le_of_ble_eq_true rfl⟩) hS (fun k9 m9 H locs q9 ce h hh hS hc9 hv9 hcl9 => xe_out hout hlocks hbase hh hK hX hS h hc9 hv9 hcl9 (Nat.le_of_ble_eq_true rfl) (Nat.le_of_ble_eq_true rfl)) (fun m6 H locs h hh hS => ?_)
  refine lv_aload_n hx hb dX5_rows_12 rfl (lv_at hl 0 rfl) ?_
  refine lv_iload_n hx hb dX5_rows_13 rfl (lv_at hl 3 rfl) ?_
  obtain ⟨g7, h⟩ := h
  refine xc_i (va_runV (As := [.int p2]) (rest := []) ⟨hx, hb, hml, hown, hts⟩ (mt_X3_rowsOf l G base h) (cwV 1 hts gX5_rows_X3_rowsOf rfl rfl rfl (by decide +kernel) ⟨Nat.le_of_ble_eq_true rfl, Nat.le_of_ble_eq_true rfl⟩) (xp_V hbase hh hK hX hS (ci := 3) g7 (by decide) rfl) rfl rfl hl.1 rfl (lv_room (Nat.le_of_ble_eq_true rfl)) dX5_rows_14 ⟨Nat.le_of_ble_eq_true rfl, Nat.le_of_ble_eq_true rfl⟩) hS (fun r8 m9 H locs h hh hS => ?_)
  exact vx_ret (xe_i hx hb hr hlocks hbase hh hK hX hS h (Nat.le_of_ble_eq_true rfl) (Nat.le_of_ble_eq_true rfl) dX5_rows_17)

set_option maxHeartbeats 4000000 in
set_option maxRecDepth 100000 in
theorem mtq_X5_rows (l : Launch) (G : GG) (base : Nat) {a0 : Nat} {p1 : Int32} {p2 : Int32} {m0 : MM} {Q : Int32 → MM → Prop} (h : wp_X5_rows a0 p1 p2 m0 Q (fun _ _ => False)) : Met l yX5_rows wsX5_rows ({ frames := 7, cells := 0, slots := 0, locals := 118 }) (va_Pc [.ref a0, .int p1, .int p2] (SP G base m0)) (va_Qi Q (HB G base) (xA base)) 0 0 (xA base) := by
  refine Met.ofW (cc := cX5_rows) (maxL := 4) (ret := (some .int)) (by decide) rfl ?_
  intro p e s m args below meth c s₁ B hml hv
  obtain ⟨rfl, hbase, hh, hK, hX⟩ := hv
  have C0 : BC p s m _ meth c G base RX5 cX5_rows 4 (some .int) wsX5_rows := ⟨B.exec, B.bytes, B.returns, hml, findClass_of_methodNamed B.named, atoms_spec (ws := wsX5_rows) B.pre, B.notSynchronized, hK, hbase, hX⟩
  obtain ⟨hx, hb, hr, -, hown, hts, hlocks, -, -, -⟩ := id C0
  have hS : va_S (xA base) s.heap s.heap [] := va_S.rf
  have hl := lv_entry ([.ref a0, .int p1, .int p2]) (n := 4) (Nat.le_of_ble_eq_true rfl)
  rw [lg_entry_eq]
  generalize (lg_sl ([.ref a0, .int p1, .int p2]) ++ List.replicate (4 - (lg_sl ([.ref a0, .int p1, .int p2])).length) Slot.unset).toArray = ls at hl ⊢
  have hl : lv_has ls 4 [(0, .ref a0), (1, .int p1), (2, .int p2)] := hl
  unfold wp_X5_rows at h
  refine lv_aload_n hx hb dX5_rows_0 rfl (lv_at hl 0 rfl) ?_
  refine lv_iload_n hx hb dX5_rows_1 rfl (lv_at hl 1 rfl) ?_
  obtain ⟨g1, h⟩ := h
  refine xc_q (va_runV (As := [.int p1]) (rest := []) ⟨hx, hb, hml, hown, hts⟩ (mtq_X5_seriesAt l G base h) (cwV 1 hts gX5_rows_X5_seriesAt rfl rfl rfl (by decide +kernel) ⟨Nat.le_of_ble_eq_true rfl, Nat.le_of_ble_eq_true rfl⟩) (xp_V hbase hh hK hX hS (ci := 5) g1 (by decide) rfl) rfl rfl hl.1 rfl (lv_room (Nat.le_of_ble_eq_true rfl)) dX5_rows_2 ⟨Nat.le_of_ble_eq_true rfl, Nat.le_of_ble_eq_true rfl⟩) hS (fun r2 m3 H locs h hh hS => ?_)
  obtain ⟨b4, eb4, h⟩ := h
  rw [eb4]
  refine W.eq (g2 := F0 m 5 ls [.ref b4]) rfl ?_
  refine lv_astore_n (lv' := [(3, .ref b4), (0, .ref a0), (1, .int p1), (2, .int p2)]) hx hb dX5_rows_5 rfl hl (by decide) rfl (fun ls hl => ?_)
  refine lv_iload_n hx hb dX5_rows_6 rfl (lv_at hl 3 rfl) ?_
  refine lv_iconst (v := 0) hx hb dX5_rows_7 (by decide) ?_
  refine lv_iconst (v := 3) hx hb dX5_rows_8 (by decide) ?_
  refine xc_v (va_runS (As := [.int p2, .int (0 : Int32), .int (3 : Int32)]) (rest := []) ⟨hx, hb, hml, hown, hts⟩ (mtq_X5_needRange l G base h) (va_cwS 3 hts gX5_rows_X5_needRange rfl rfl rfl (by decide +kernel) ⟨Nat.le_of_ble_eq_true rfl, Nat.le_of_ble_eq_true rfl⟩) (xp_S hbase hh hK hX hS) rfl rfl hl.1 rfl (lv_room (Nat.le_of_ble_eq_true rfl)) dX5_rows_9 ⟨Nat.le_of_ble_eq_true rfl, Nat.le_of_ble_eq_true rfl⟩) hS (fun m6 H locs h hh hS => ?_)
  refine lv_aload_n hx hb dX5_rows_12 rfl (lv_at hl 0 rfl) ?_
  refine lv_iload_n hx hb dX5_rows_13 rfl (lv_at hl 3 rfl) ?_
  obtain ⟨g7, h⟩ := h
  refine xc_i (va_runV (As := [.int p2]) (rest := []) ⟨hx, hb, hml, hown, hts⟩ (mt_X3_rowsOf l G base h) (cwV 1 hts gX5_rows_X3_rowsOf rfl rfl rfl (by decide +kernel) ⟨Nat.le_of_ble_eq_true rfl, Nat.le_of_ble_eq_true rfl⟩) (xp_V hbase hh hK hX hS (ci := 3) g7 (by decide) rfl) rfl rfl hl.1 rfl (lv_room (Nat.le_of_ble_eq_true rfl)) dX5_rows_14 ⟨Nat.le_of_ble_eq_true rfl, Nat.le_of_ble_eq_true rfl⟩) hS (fun r8 m9 H locs h hh hS => ?_)
  exact (xe_i hx hb hr hlocks hbase hh hK hX hS h (Nat.le_of_ble_eq_true rfl) (Nat.le_of_ble_eq_true rfl) dX5_rows_17)

set_option maxHeartbeats 4000000 in
set_option maxRecDepth 100000 in
theorem mt_X5_clock (l : Launch) (G : GG) (base : Nat) {a0 : Nat} {m0 : MM} {Q : Int32 → MM → Prop} (h : wp_X5_clock a0 m0 Q) : Met l yX5_clock wsX5_clock ({ frames := 0, cells := 0, slots := 0, locals := 8 }) (va_Pc [.ref a0] (SP G base m0)) (va_Qi Q (HB G base) (xA base)) 0 0 (xA base) := by
  refine Met.ofW (cc := cX5_clock) (maxL := 1) (ret := (some .int)) (by decide) rfl ?_
  intro p e s m args below meth c s₁ B hml hv
  obtain ⟨rfl, hbase, hh, hK, hX⟩ := hv
  have C0 : BC p s m _ meth c G base RX5 cX5_clock 1 (some .int) wsX5_clock := ⟨B.exec, B.bytes, B.returns, hml, findClass_of_methodNamed B.named, atoms_spec (ws := wsX5_clock) B.pre, B.notSynchronized, hK, hbase, hX⟩
  obtain ⟨hx, hb, hr, -, hown, hts, hlocks, -, -, -⟩ := id C0
  have hS : va_S (xA base) s.heap s.heap [] := va_S.rf
  have hl := lv_entry ([.ref a0]) (n := 1) (Nat.le_of_ble_eq_true rfl)
  rw [lg_entry_eq]
  generalize (lg_sl ([.ref a0]) ++ List.replicate (1 - (lg_sl ([.ref a0])).length) Slot.unset).toArray = ls at hl ⊢
  have hl : lv_has ls 1 [(0, .ref a0)] := hl
  unfold wp_X5_clock at h
  have hL5 : ∀ w ∈ u_ws RX5 TX5 7, w.before _ s = true := fun w h9 => hts w (List.mem_cons_of_mem _ (List.mem_append_right _ (h9)))
  have q2 : (Cond.fieldLink RX5 105 "RollupStore" "clock" "I").before _ s = true := hts _ (List.mem_cons_of_mem _ (List.mem_append_left _ (List.mem_of_getElem? (i := 0) rfl)))
  refine lv_aload_n hx hb dX5_clock_0 rfl (lv_at hl 0 rfl) ?_
  obtain ⟨g1, h⟩ := h
  refine xr_getI (ci := 5) (C := RX5) (T := TX5) (N := 7) hx hb hL5 hown hK hh g1 (by decide) rfl 2 102 rfl rfl (by decide) (by decide) q2 (fun _ h9 => h9) dX5_clock_1 ?_
  exact (xe_i hx hb hr hlocks hbase hh hK hX hS h (Nat.le_of_ble_eq_true rfl) (Nat.le_of_ble_eq_true rfl) dX5_clock_4)

set_option maxHeartbeats 4000000 in
set_option maxRecDepth 100000 in
theorem mt_X5_rollupsAt (l : Launch) (hl9 : l.stackTraces = false) (G : GG) (base : Nat) {a0 : Nat} {p1 : Int32} {p2 : Int32} {p3 : Int32} {m0 : MM} {Q : Option Nat → MM → Prop} {X : Nat → MM → Prop} (h : wp_X5_rollupsAt a0 p1 p2 p3 m0 Q X) : vx_Met l yX5_rollupsAt wsX5_rollupsAt ({ frames := 7, cells := 3, slots := 18, locals := 118 }) (va_Pc [.ref a0, .int p1, .int p2, .int p3] (SP G base m0)) (va_Qq Q (HB G base) (xA base)) (xX G base X) 3 18 (xA base) := by
  refine vx_ofW (cc := cX5_rollupsAt) (maxL := 5) (ret := (some (.object "RollupStore$Rollups"))) (by decide) rfl ?_
  intro p e s m args below meth c s₁ B hml hout hv
  obtain ⟨rfl, hbase, hh, hK, hX⟩ := hv
  have C0 : BC p s m _ meth c G base RX5 cX5_rollupsAt 5 (some (.object "RollupStore$Rollups")) wsX5_rollupsAt := ⟨B.exec, B.bytes, B.returns, hml, findClass_of_methodNamed B.named, atoms_spec (ws := wsX5_rollupsAt) B.pre, B.notSynchronized, hK, hbase, hX⟩
  obtain ⟨hx, hb, hr, -, hown, hts, hlocks, -, -, -⟩ := id C0
  have hS : va_S (xA base) s.heap s.heap [] := va_S.rf
  have hl := lv_entry ([.ref a0, .int p1, .int p2, .int p3]) (n := 5) (Nat.le_of_ble_eq_true rfl)
  rw [lg_entry_eq]
  generalize (lg_sl ([.ref a0, .int p1, .int p2, .int p3]) ++ List.replicate (5 - (lg_sl ([.ref a0, .int p1, .int p2, .int p3])).length) Slot.unset).toArray = ls at hl ⊢
  have hl : lv_has ls 5 [(0, .ref a0), (1, .int p1), (2, .int p2), (3, .int p3)] := hl
  unfold wp_X5_rollupsAt at h
  have hW1 : ∀ w ∈ (vx_atS RX5 222 "java/lang/IllegalArgumentException" ["java/lang/RuntimeException", "java/lang/Exception"]).filter goodWord, w.before _ s = true := fun w h9 => hts w (List.mem_cons_of_mem _ (List.mem_append_left _ (List.mem_append_right _ (h9))))
  have q2 : (Cond.classLink RX5 218 "java/lang/IllegalArgumentException").before _ s = true := hts _ (List.mem_cons_of_mem _ (List.mem_append_left _ (List.mem_append_left _ (List.mem_append_left _ (List.mem_append_left _ (List.mem_of_getElem? (i := 0) rfl))))))
  have q3 : (Cond.initialized "java/lang/IllegalArgumentException").before _ s = true := hts _ (List.mem_cons_of_mem _ (List.mem_append_left _ (List.mem_append_left _ (List.mem_append_left _ (List.mem_append_left _ (List.mem_of_getElem? (i := 1) rfl))))))
  refine lv_aload_n hx hb dX5_rollupsAt_0 rfl (lv_at hl 0 rfl) ?_
  refine lv_iload_n hx hb dX5_rollupsAt_1 rfl (lv_at hl 1 rfl) ?_
  obtain ⟨g1, h⟩ := h
  refine xt_q (vx_runV (As := [.int p1]) (rest := []) ⟨hx, hb, hml, hown, hts⟩ (mt_X5_seriesAt l hl9 G base h) (cwV 1 hts gX5_rollupsAt_X5_seriesAt rfl rfl rfl (by decide +kernel) ⟨Nat.le_of_ble_eq_true rfl, Nat.le_of_ble_eq_true rfl⟩) (xp_V hbase hh hK hX hS (ci := 5) g1 (by decide) rfl) rfl rfl hl.1 rfl (lv_room (Nat.le_of_ble_eq_true rfl)) dX5_rollupsAt_2 ⟨Nat.le_of_ble_eq_true rfl, Nat.le_of_ble_eq_true rfl⟩) hS (fun k9 m9 H locs q9 ce h hh hS hc9 hv9 hcl9 => xe_out hout hlocks hbase hh hK hX hS h hc9 hv9 hcl9 (Nat.le_of_ble_eq_true rfl) (Nat.le_of_ble_eq_true rfl)) (fun r2 m3 H locs h hh hS => ?_)
  obtain ⟨b4, eb4, h⟩ := h
  rw [eb4]
  refine W.eq (g2 := F0 m 5 ls [.ref b4]) rfl ?_
  refine lv_astore (lv' := [(4, .ref b4), (0, .ref a0), (1, .int p1), (2, .int p2), (3, .int p3)]) hx hb dX5_rollupsAt_5 hl (by decide) rfl (fun ls hl => ?_)
  refine lv_iload_n hx hb dX5_rollupsAt_7 rfl (lv_at hl 3 rfl) ?_
  refine lv_iconst (v := 1) hx hb dX5_rollupsAt_8 (by decide) ?_
  refine lv_iconst (v := 3) hx hb dX5_rollupsAt_9 (by decide) ?_
  refine xt_v (vx_runS (As := [.int p2, .int (1 : Int32), .int (3 : Int32)]) (rest := []) ⟨hx, hb, hml, hown, hts⟩ (mt_X5_needRange l hl9 G base h) (va_cwS 3 hts gX5_rollupsAt_X5_needRange rfl rfl rfl (by decide +kernel) ⟨Nat.le_of_ble_eq_true rfl, Nat.le_of_ble_eq_true rfl⟩) (xp_S hbase hh hK hX hS) rfl rfl hl.1 rfl (lv_room (Nat.le_of_ble_eq_true rfl)) dX5_rollupsAt_10 ⟨Nat.le_of_ble_eq_true rfl, Nat.le_of_ble_eq_true rfl⟩) hS (fun k9 m9 H locs q9 ce h hh hS hc9 hv9 hcl9 => xe_out hout hlocks hbase hh hK hX hS h hc9 hv9 hcl9 (Nat.le_of_ble_eq_true rfl) (Nat.le_of_ble_eq_true rfl)) (fun m6 H locs h hh hS => ?_)
  refine lv_iload_n hx hb dX5_rollupsAt_13 rfl (lv_at hl 4 rfl) ?_
  refine lv_if_ge (tgt := 28) hx hb dX5_rollupsAt_14 (by decide) (fun c7 => ?_) (fun c7 => ?_)
  · replace h := h.1 c7
    refine lv_aload hx hb dX5_rollupsAt_28 (lv_at hl 0 rfl) ?_
    refine lv_iload_n hx hb dX5_rollupsAt_30 rfl (lv_at hl 3 rfl) ?_
    obtain ⟨g8, h⟩ := h
    refine xc_q (va_runV (As := [.int p2]) (rest := []) ⟨hx, hb, hml, hown, hts⟩ (mt_X3_rollupsOf l G base h) (cwV 1 hts gX5_rollupsAt_X3_rollupsOf rfl rfl rfl (by decide +kernel) ⟨Nat.le_of_ble_eq_true rfl, Nat.le_of_ble_eq_true rfl⟩) (xp_V hbase hh hK hX hS (ci := 3) g8 (by decide) rfl) rfl rfl hl.1 rfl (lv_room (Nat.le_of_ble_eq_true rfl)) dX5_rollupsAt_31 ⟨Nat.le_of_ble_eq_true rfl, Nat.le_of_ble_eq_true rfl⟩) hS (fun r9 m10 H locs h hh hS => ?_)
    exact vx_ret (xe_q (v := r9) hx hb hr hlocks hbase hh hK hX hS h (Nat.le_of_ble_eq_true rfl) (Nat.le_of_ble_eq_true rfl) dX5_rollupsAt_34)
  · replace h := h.2 c7
    exact xe_throw1W (text := "time is below 0") (is := 256) hx hb hl9 hout hlocks hbase hh hX hS hown q2 q3 hW1 (List.mem_of_getElem? (i := 12) rfl) (hl.1.trans hml.symm) dX5_rollupsAt_17 dX5_rollupsAt_20 dX5_rollupsAt_21 dX5_rollupsAt_24 dX5_rollupsAt_27 (Nat.le_of_ble_eq_true rfl) (Nat.le_of_ble_eq_true rfl) (Nat.le_of_ble_eq_true rfl) (Nat.le_of_ble_eq_true rfl) h (Nat.le_of_ble_eq_true rfl) (Nat.le_of_ble_eq_true rfl)

set_option maxHeartbeats 4000000 in
set_option maxRecDepth 100000 in
theorem mtq_X5_rollupsAt (l : Launch) (G : GG) (base : Nat) {a0 : Nat} {p1 : Int32} {p2 : Int32} {p3 : Int32} {m0 : MM} {Q : Option Nat → MM → Prop} (h : wp_X5_rollupsAt a0 p1 p2 p3 m0 Q (fun _ _ => False)) : Met l yX5_rollupsAt wsX5_rollupsAt ({ frames := 7, cells := 0, slots := 0, locals := 118 }) (va_Pc [.ref a0, .int p1, .int p2, .int p3] (SP G base m0)) (va_Qq Q (HB G base) (xA base)) 0 0 (xA base) := by
  refine Met.ofW (cc := cX5_rollupsAt) (maxL := 5) (ret := (some (.object "RollupStore$Rollups"))) (by decide) rfl ?_
  intro p e s m args below meth c s₁ B hml hv
  obtain ⟨rfl, hbase, hh, hK, hX⟩ := hv
  have C0 : BC p s m _ meth c G base RX5 cX5_rollupsAt 5 (some (.object "RollupStore$Rollups")) wsX5_rollupsAt := ⟨B.exec, B.bytes, B.returns, hml, findClass_of_methodNamed B.named, atoms_spec (ws := wsX5_rollupsAt) B.pre, B.notSynchronized, hK, hbase, hX⟩
  obtain ⟨hx, hb, hr, -, hown, hts, hlocks, -, -, -⟩ := id C0
  have hS : va_S (xA base) s.heap s.heap [] := va_S.rf
  have hl := lv_entry ([.ref a0, .int p1, .int p2, .int p3]) (n := 5) (Nat.le_of_ble_eq_true rfl)
  rw [lg_entry_eq]
  generalize (lg_sl ([.ref a0, .int p1, .int p2, .int p3]) ++ List.replicate (5 - (lg_sl ([.ref a0, .int p1, .int p2, .int p3])).length) Slot.unset).toArray = ls at hl ⊢
  have hl : lv_has ls 5 [(0, .ref a0), (1, .int p1), (2, .int p2), (3, .int p3)] := hl
  unfold wp_X5_rollupsAt at h
  refine lv_aload_n hx hb dX5_rollupsAt_0 rfl (lv_at hl 0 rfl) ?_
  refine lv_iload_n hx hb dX5_rollupsAt_1 rfl (lv_at hl 1 rfl) ?_
  obtain ⟨g1, h⟩ := h
  refine xc_q (va_runV (As := [.int p1]) (rest := []) ⟨hx, hb, hml, hown, hts⟩ (mtq_X5_seriesAt l G base h) (cwV 1 hts gX5_rollupsAt_X5_seriesAt rfl rfl rfl (by decide +kernel) ⟨Nat.le_of_ble_eq_true rfl, Nat.le_of_ble_eq_true rfl⟩) (xp_V hbase hh hK hX hS (ci := 5) g1 (by decide) rfl) rfl rfl hl.1 rfl (lv_room (Nat.le_of_ble_eq_true rfl)) dX5_rollupsAt_2 ⟨Nat.le_of_ble_eq_true rfl, Nat.le_of_ble_eq_true rfl⟩) hS (fun r2 m3 H locs h hh hS => ?_)
  obtain ⟨b4, eb4, h⟩ := h
  rw [eb4]
  refine W.eq (g2 := F0 m 5 ls [.ref b4]) rfl ?_
  refine lv_astore (lv' := [(4, .ref b4), (0, .ref a0), (1, .int p1), (2, .int p2), (3, .int p3)]) hx hb dX5_rollupsAt_5 hl (by decide) rfl (fun ls hl => ?_)
  refine lv_iload_n hx hb dX5_rollupsAt_7 rfl (lv_at hl 3 rfl) ?_
  refine lv_iconst (v := 1) hx hb dX5_rollupsAt_8 (by decide) ?_
  refine lv_iconst (v := 3) hx hb dX5_rollupsAt_9 (by decide) ?_
  refine xc_v (va_runS (As := [.int p2, .int (1 : Int32), .int (3 : Int32)]) (rest := []) ⟨hx, hb, hml, hown, hts⟩ (mtq_X5_needRange l G base h) (va_cwS 3 hts gX5_rollupsAt_X5_needRange rfl rfl rfl (by decide +kernel) ⟨Nat.le_of_ble_eq_true rfl, Nat.le_of_ble_eq_true rfl⟩) (xp_S hbase hh hK hX hS) rfl rfl hl.1 rfl (lv_room (Nat.le_of_ble_eq_true rfl)) dX5_rollupsAt_10 ⟨Nat.le_of_ble_eq_true rfl, Nat.le_of_ble_eq_true rfl⟩) hS (fun m6 H locs h hh hS => ?_)
  refine lv_iload_n hx hb dX5_rollupsAt_13 rfl (lv_at hl 4 rfl) ?_
  refine lv_if_ge (tgt := 28) hx hb dX5_rollupsAt_14 (by decide) (fun c7 => ?_) (fun c7 => ?_)
  · replace h := h.1 c7
    refine lv_aload hx hb dX5_rollupsAt_28 (lv_at hl 0 rfl) ?_
    refine lv_iload_n hx hb dX5_rollupsAt_30 rfl (lv_at hl 3 rfl) ?_
    obtain ⟨g8, h⟩ := h
    refine xc_q (va_runV (As := [.int p2]) (rest := []) ⟨hx, hb, hml, hown, hts⟩ (mt_X3_rollupsOf l G base h) (cwV 1 hts gX5_rollupsAt_X3_rollupsOf rfl rfl rfl (by decide +kernel) ⟨Nat.le_of_ble_eq_true rfl, Nat.le_of_ble_eq_true rfl⟩) (xp_V hbase hh hK hX hS (ci := 3) g8 (by decide) rfl) rfl rfl hl.1 rfl (lv_room (Nat.le_of_ble_eq_true rfl)) dX5_rollupsAt_31 ⟨Nat.le_of_ble_eq_true rfl, Nat.le_of_ble_eq_true rfl⟩) hS (fun r9 m10 H locs h hh hS => ?_)
    exact (xe_q (v := r9) hx hb hr hlocks hbase hh hK hX hS h (Nat.le_of_ble_eq_true rfl) (Nat.le_of_ble_eq_true rfl) dX5_rollupsAt_34)
  · replace h := h.2 c7
    exact h.elim

set_option maxHeartbeats 4000000 in
set_option maxRecDepth 100000 in
theorem mt_X5_lengthOf (l : Launch) (G : GG) (base : Nat) {p1 : Int32} {m0 : MM} {Q : Int32 → MM → Prop} (h : wp_X5_lengthOf p1 m0 Q) : Met l yX5_lengthOf wsX5_lengthOf ({ frames := 0, cells := 0, slots := 0, locals := 8 }) (va_Pc [.int p1] (SP G base m0)) (va_Qi Q (HB G base) (xA base)) 0 0 (xA base) := by
  refine Met.ofW (cc := cX5_lengthOf) (maxL := 1) (ret := (some .int)) (by decide) rfl ?_
  intro p e s m args below meth c s₁ B hml hv
  obtain ⟨rfl, hbase, hh, hK, hX⟩ := hv
  have C0 : BC p s m _ meth c G base RX5 cX5_lengthOf 1 (some .int) wsX5_lengthOf := ⟨B.exec, B.bytes, B.returns, hml, findClass_of_methodNamed B.named, atoms_spec (ws := wsX5_lengthOf) B.pre, B.notSynchronized, hK, hbase, hX⟩
  obtain ⟨hx, hb, hr, -, hown, hts, hlocks, -, -, -⟩ := id C0
  have hS : va_S (xA base) s.heap s.heap [] := va_S.rf
  have hl := lv_entry ([.int p1]) (n := 1) (Nat.le_of_ble_eq_true rfl)
  rw [lg_entry_eq]
  generalize (lg_sl ([.int p1]) ++ List.replicate (1 - (lg_sl ([.int p1])).length) Slot.unset).toArray = ls at hl ⊢
  have hl : lv_has ls 1 [(0, .int p1)] := hl
  unfold wp_X5_lengthOf at h
  have q1 : (Cond.constant RX5 15 (86400)).before _ s = true := hts _ (List.mem_cons_of_mem _ (List.mem_of_getElem? (i := 0) rfl))
  refine lv_iload_n hx hb dX5_lengthOf_0 rfl (lv_at hl 0 rfl) ?_
  refine lv_iconst (v := 3) hx hb dX5_lengthOf_1 (by decide) ?_
  refine lv_icmp_ne (tgt := 10) hx hb dX5_lengthOf_2 (by decide) (fun c1 => ?_) (fun c1 => ?_)
  · replace h := h.1 c1
    refine lv_iload_n hx hb dX5_lengthOf_10 rfl (lv_at hl 0 rfl) ?_
    refine lv_iconst (v := 2) hx hb dX5_lengthOf_11 (by decide) ?_
    refine lv_icmp_ne (tgt := 21) hx hb dX5_lengthOf_12 (by decide) (fun c2 => ?_) (fun c2 => ?_)
    · replace h := h.1 c2
      refine lv_bipush (v := 60) hx hb dX5_lengthOf_21 (by decide) ?_
      exact (xe_i hx hb hr hlocks hbase hh hK hX hS h (Nat.le_of_ble_eq_true rfl) (Nat.le_of_ble_eq_true rfl) dX5_lengthOf_23)
    · replace h := h.2 c2
      refine lv_sipush (v := 3600) hx hb dX5_lengthOf_15 (by decide) ?_
      refine lv_goto (tgt := 23) hx hb dX5_lengthOf_18 (by decide) ?_
      exact (xe_i hx hb hr hlocks hbase hh hK hX hS h (Nat.le_of_ble_eq_true rfl) (Nat.le_of_ble_eq_true rfl) dX5_lengthOf_23)
  · replace h := h.2 c1
    refine lv_ldc hx hb hown q1 dX5_lengthOf_5 ?_
    refine lv_goto (tgt := 23) hx hb dX5_lengthOf_7 (by decide) ?_
    exact (xe_i hx hb hr hlocks hbase hh hK hX hS h (Nat.le_of_ble_eq_true rfl) (Nat.le_of_ble_eq_true rfl) dX5_lengthOf_23)

set_option maxHeartbeats 4000000 in
set_option maxRecDepth 100000 in
theorem mt_X5_beginOf (l : Launch) (G : GG) (base : Nat) {p1 : Int32} {p2 : Int32} {m0 : MM} {Q : Int32 → MM → Prop} (h : wp_X5_beginOf p1 p2 m0 Q) : Met l yX5_beginOf wsX5_beginOf ({ frames := 1, cells := 0, slots := 0, locals := 28 }) (va_Pc [.int p1, .int p2] (SP G base m0)) (va_Qi Q (HB G base) (xA base)) 0 0 (xA base) := by
  refine Met.ofW (cc := cX5_beginOf) (maxL := 2) (ret := (some .int)) (by decide) rfl ?_
  intro p e s m args below meth c s₁ B hml hv
  obtain ⟨rfl, hbase, hh, hK, hX⟩ := hv
  have C0 : BC p s m _ meth c G base RX5 cX5_beginOf 2 (some .int) wsX5_beginOf := ⟨B.exec, B.bytes, B.returns, hml, findClass_of_methodNamed B.named, atoms_spec (ws := wsX5_beginOf) B.pre, B.notSynchronized, hK, hbase, hX⟩
  obtain ⟨hx, hb, hr, -, hown, hts, hlocks, -, -, -⟩ := id C0
  have hS : va_S (xA base) s.heap s.heap [] := va_S.rf
  have hl := lv_entry ([.int p1, .int p2]) (n := 2) (Nat.le_of_ble_eq_true rfl)
  rw [lg_entry_eq]
  generalize (lg_sl ([.int p1, .int p2]) ++ List.replicate (2 - (lg_sl ([.int p1, .int p2])).length) Slot.unset).toArray = ls at hl ⊢
  have hl : lv_has ls 2 [(0, .int p1), (1, .int p2)] := hl
  unfold wp_X5_beginOf at h
  refine lv_iload_n hx hb dX5_beginOf_0 rfl (lv_at hl 1 rfl) ?_
  refine lv_iload_n hx hb dX5_beginOf_1 rfl (lv_at hl 1 rfl) ?_
  refine lv_iload_n hx hb dX5_beginOf_2 rfl (lv_at hl 0 rfl) ?_
  refine xc_i (va_runS (As := [.int p1]) (rest := [.int p2, .int p2]) ⟨hx, hb, hml, hown, hts⟩ (mt_X5_lengthOf l G base h) (va_cwS 1 hts gX5_beginOf_X5_lengthOf rfl rfl rfl (by decide +kernel) ⟨Nat.le_of_ble_eq_true rfl, Nat.le_of_ble_eq_true rfl⟩) (xp_S hbase hh hK hX hS) rfl rfl hl.1 rfl (lv_room (Nat.le_of_ble_eq_true rfl)) dX5_beginOf_3 ⟨Nat.le_of_ble_eq_true rfl, Nat.le_of_ble_eq_true rfl⟩) hS (fun r1 m2 H locs h hh hS => ?_)
  obtain ⟨g3, h⟩ := h
  refine lv_irem hx hb dX5_beginOf_6 g3 ?_
  refine lv_isub hx hb dX5_beginOf_7 ?_
  exact (xe_i hx hb hr hlocks hbase hh hK hX hS h (Nat.le_of_ble_eq_true rfl) (Nat.le_of_ble_eq_true rfl) dX5_beginOf_8)

set_option maxHeartbeats 4000000 in
set_option maxRecDepth 100000 in
theorem mt_X5_rollupOrNull (l : Launch) (hl9 : l.stackTraces = false) (G : GG) (base : Nat) {a0 : Nat} {p1 : Int32} {p2 : Int32} {p3 : Int32} {m0 : MM} {Q : Option Nat → MM → Prop} {X : Nat → MM → Prop} (h : wp_X5_rollupOrNull a0 p1 p2 p3 m0 Q X) : vx_Met l yX5_rollupOrNull wsX5_rollupOrNull ({ frames := 8, cells := 3, slots := 18, locals := 142 }) (va_Pc [.ref a0, .int p1, .int p2, .int p3] (SP G base m0)) (va_Qq Q (HB G base) (xA base)) (xX G base X) 3 18 (xA base) := by
  refine vx_ofW (cc := cX5_rollupOrNull) (maxL := 4) (ret := (some (.object "RollupStore$Rollup"))) (by decide) rfl ?_
  intro p e s m args below meth c s₁ B hml hout hv
  obtain ⟨rfl, hbase, hh, hK, hX⟩ := hv
  have C0 : BC p s m _ meth c G base RX5 cX5_rollupOrNull 4 (some (.object "RollupStore$Rollup")) wsX5_rollupOrNull := ⟨B.exec, B.bytes, B.returns, hml, findClass_of_methodNamed B.named, atoms_spec (ws := wsX5_rollupOrNull) B.pre, B.notSynchronized, hK, hbase, hX⟩
  obtain ⟨hx, hb, hr, -, hown, hts, hlocks, -, -, -⟩ := id C0
  have hS : va_S (xA base) s.heap s.heap [] := va_S.rf
  have hl := lv_entry ([.ref a0, .int p1, .int p2, .int p3]) (n := 4) (Nat.le_of_ble_eq_true rfl)
  rw [lg_entry_eq]
  generalize (lg_sl ([.ref a0, .int p1, .int p2, .int p3]) ++ List.replicate (4 - (lg_sl ([.ref a0, .int p1, .int p2, .int p3])).length) Slot.unset).toArray = ls at hl ⊢
  have hl : lv_has ls 4 [(0, .ref a0), (1, .int p1), (2, .int p2), (3, .int p3)] := hl
  unfold wp_X5_rollupOrNull at h
  refine lv_aload_n hx hb dX5_rollupOrNull_0 rfl (lv_at hl 0 rfl) ?_
  refine lv_iload_n hx hb dX5_rollupOrNull_1 rfl (lv_at hl 1 rfl) ?_
  refine lv_iload_n hx hb dX5_rollupOrNull_2 rfl (lv_at hl 2 rfl) ?_
  refine lv_iload_n hx hb dX5_rollupOrNull_3 rfl (lv_at hl 3 rfl) ?_
  obtain ⟨g1, h⟩ := h
  refine xt_q (vx_runV (As := [.int p1, .int p2, .int p3]) (rest := []) ⟨hx, hb, hml, hown, hts⟩ (mt_X5_rollupsAt l hl9 G base h) (cwV 3 hts gX5_rollupOrNull_X5_rollupsAt rfl rfl rfl (by decide +kernel) ⟨Nat.le_of_ble_eq_true rfl, Nat.le_of_ble_eq_true rfl⟩) (xp_V hbase hh hK hX hS (ci := 5) g1 (by decide) rfl) rfl rfl hl.1 rfl (lv_room (Nat.le_of_ble_eq_true rfl)) dX5_rollupOrNull_4 ⟨Nat.le_of_ble_eq_true rfl, Nat.le_of_ble_eq_true rfl⟩) hS (fun k9 m9 H locs q9 ce h hh hS hc9 hv9 hcl9 => xe_out hout hlocks hbase hh hK hX hS h hc9 hv9 hcl9 (Nat.le_of_ble_eq_true rfl) (Nat.le_of_ble_eq_true rfl)) (fun r2 m3 H locs h hh hS => ?_)
  refine lv_iload_n hx hb dX5_rollupOrNull_7 rfl (lv_at hl 2 rfl) ?_
  refine lv_iload_n hx hb dX5_rollupOrNull_8 rfl (lv_at hl 3 rfl) ?_
  refine xc_i (va_runS (As := [.int p2, .int p3]) (rest := [va_rf r2]) ⟨hx, hb, hml, hown, hts⟩ (mt_X5_beginOf l G base h) (va_cwS 2 hts gX5_rollupOrNull_X5_beginOf rfl rfl rfl (by decide +kernel) ⟨(by cases r2 <;> exact Nat.le_of_ble_eq_true rfl), (by cases r2 <;> exact Nat.le_of_ble_eq_true rfl)⟩) (xp_S hbase hh hK hX hS) rfl rfl hl.1 rfl (lv_room (by cases r2 <;> exact Nat.le_of_ble_eq_true rfl)) dX5_rollupOrNull_9 ⟨Nat.le_of_ble_eq_true rfl, Nat.le_of_ble_eq_true rfl⟩) hS (fun r4 m5 H locs h hh hS => ?_)
  obtain ⟨b6, eb6, h⟩ := h
  rw [eb6]
  refine W.eq (g2 := F0 m 12 ls [.int r4, .ref b6]) rfl ?_
  obtain ⟨g7, h⟩ := h
  refine xc_q (va_runV (As := [.int r4]) (rest := []) ⟨hx, hb, hml, hown, hts⟩ (mt_X2_find l G base h) (cwV 1 hts gX5_rollupOrNull_X2_find rfl rfl rfl (by decide +kernel) ⟨Nat.le_of_ble_eq_true rfl, Nat.le_of_ble_eq_true rfl⟩) (xp_V hbase hh hK hX hS (ci := 2) g7 (by decide) rfl) rfl rfl hl.1 rfl (lv_room (Nat.le_of_ble_eq_true rfl)) dX5_rollupOrNull_12 ⟨Nat.le_of_ble_eq_true rfl, Nat.le_of_ble_eq_true rfl⟩) hS (fun r8 m9 H locs h hh hS => ?_)
  exact vx_ret (xe_q (v := r8) hx hb hr hlocks hbase hh hK hX hS h (Nat.le_of_ble_eq_true rfl) (Nat.le_of_ble_eq_true rfl) dX5_rollupOrNull_15)

set_option maxHeartbeats 4000000 in
set_option maxRecDepth 100000 in
theorem mtq_X5_rollupOrNull (l : Launch) (G : GG) (base : Nat) {a0 : Nat} {p1 : Int32} {p2 : Int32} {p3 : Int32} {m0 : MM} {Q : Option Nat → MM → Prop} (h : wp_X5_rollupOrNull a0 p1 p2 p3 m0 Q (fun _ _ => False)) : Met l yX5_rollupOrNull wsX5_rollupOrNull ({ frames := 8, cells := 0, slots := 0, locals := 142 }) (va_Pc [.ref a0, .int p1, .int p2, .int p3] (SP G base m0)) (va_Qq Q (HB G base) (xA base)) 0 0 (xA base) := by
  refine Met.ofW (cc := cX5_rollupOrNull) (maxL := 4) (ret := (some (.object "RollupStore$Rollup"))) (by decide) rfl ?_
  intro p e s m args below meth c s₁ B hml hv
  obtain ⟨rfl, hbase, hh, hK, hX⟩ := hv
  have C0 : BC p s m _ meth c G base RX5 cX5_rollupOrNull 4 (some (.object "RollupStore$Rollup")) wsX5_rollupOrNull := ⟨B.exec, B.bytes, B.returns, hml, findClass_of_methodNamed B.named, atoms_spec (ws := wsX5_rollupOrNull) B.pre, B.notSynchronized, hK, hbase, hX⟩
  obtain ⟨hx, hb, hr, -, hown, hts, hlocks, -, -, -⟩ := id C0
  have hS : va_S (xA base) s.heap s.heap [] := va_S.rf
  have hl := lv_entry ([.ref a0, .int p1, .int p2, .int p3]) (n := 4) (Nat.le_of_ble_eq_true rfl)
  rw [lg_entry_eq]
  generalize (lg_sl ([.ref a0, .int p1, .int p2, .int p3]) ++ List.replicate (4 - (lg_sl ([.ref a0, .int p1, .int p2, .int p3])).length) Slot.unset).toArray = ls at hl ⊢
  have hl : lv_has ls 4 [(0, .ref a0), (1, .int p1), (2, .int p2), (3, .int p3)] := hl
  unfold wp_X5_rollupOrNull at h
  refine lv_aload_n hx hb dX5_rollupOrNull_0 rfl (lv_at hl 0 rfl) ?_
  refine lv_iload_n hx hb dX5_rollupOrNull_1 rfl (lv_at hl 1 rfl) ?_
  refine lv_iload_n hx hb dX5_rollupOrNull_2 rfl (lv_at hl 2 rfl) ?_
  refine lv_iload_n hx hb dX5_rollupOrNull_3 rfl (lv_at hl 3 rfl) ?_
  obtain ⟨g1, h⟩ := h
  refine xc_q (va_runV (As := [.int p1, .int p2, .int p3]) (rest := []) ⟨hx, hb, hml, hown, hts⟩ (mtq_X5_rollupsAt l G base h) (cwV 3 hts gX5_rollupOrNull_X5_rollupsAt rfl rfl rfl (by decide +kernel) ⟨Nat.le_of_ble_eq_true rfl, Nat.le_of_ble_eq_true rfl⟩) (xp_V hbase hh hK hX hS (ci := 5) g1 (by decide) rfl) rfl rfl hl.1 rfl (lv_room (Nat.le_of_ble_eq_true rfl)) dX5_rollupOrNull_4 ⟨Nat.le_of_ble_eq_true rfl, Nat.le_of_ble_eq_true rfl⟩) hS (fun r2 m3 H locs h hh hS => ?_)
  refine lv_iload_n hx hb dX5_rollupOrNull_7 rfl (lv_at hl 2 rfl) ?_
  refine lv_iload_n hx hb dX5_rollupOrNull_8 rfl (lv_at hl 3 rfl) ?_
  refine xc_i (va_runS (As := [.int p2, .int p3]) (rest := [va_rf r2]) ⟨hx, hb, hml, hown, hts⟩ (mt_X5_beginOf l G base h) (va_cwS 2 hts gX5_rollupOrNull_X5_beginOf rfl rfl rfl (by decide +kernel) ⟨(by cases r2 <;> exact Nat.le_of_ble_eq_true rfl), (by cases r2 <;> exact Nat.le_of_ble_eq_true rfl)⟩) (xp_S hbase hh hK hX hS) rfl rfl hl.1 rfl (lv_room (by cases r2 <;> exact Nat.le_of_ble_eq_true rfl)) dX5_rollupOrNull_9 ⟨Nat.le_of_ble_eq_true rfl, Nat.le_of_ble_eq_true rfl⟩) hS (fun r4 m5 H locs h hh hS => ?_)
  obtain ⟨b6, eb6, h⟩ := h
  rw [eb6]
  refine W.eq (g2 := F0 m 12 ls [.int r4, .ref b6]) rfl ?_
  obtain ⟨g7, h⟩ := h
  refine xc_q (va_runV (As := [.int r4]) (rest := []) ⟨hx, hb, hml, hown, hts⟩ (mt_X2_find l G base h) (cwV 1 hts gX5_rollupOrNull_X2_find rfl rfl rfl (by decide +kernel) ⟨Nat.le_of_ble_eq_true rfl, Nat.le_of_ble_eq_true rfl⟩) (xp_V hbase hh hK hX hS (ci := 2) g7 (by decide) rfl) rfl rfl hl.1 rfl (lv_room (Nat.le_of_ble_eq_true rfl)) dX5_rollupOrNull_12 ⟨Nat.le_of_ble_eq_true rfl, Nat.le_of_ble_eq_true rfl⟩) hS (fun r8 m9 H locs h hh hS => ?_)
  exact (xe_q (v := r8) hx hb hr hlocks hbase hh hK hX hS h (Nat.le_of_ble_eq_true rfl) (Nat.le_of_ble_eq_true rfl) dX5_rollupOrNull_15)

set_option maxHeartbeats 4000000 in
set_option maxRecDepth 100000 in
theorem mt_X5_hasRollup (l : Launch) (hl9 : l.stackTraces = false) (G : GG) (base : Nat) {a0 : Nat} {p1 : Int32} {p2 : Int32} {p3 : Int32} {m0 : MM} {Q : Int32 → MM → Prop} {X : Nat → MM → Prop} (h : wp_X5_hasRollup a0 p1 p2 p3 m0 Q X) : vx_Met l yX5_hasRollup wsX5_hasRollup ({ frames := 9, cells := 3, slots := 18, locals := 165 }) (va_Pc [.ref a0, .int p1, .int p2, .int p3] (SP G base m0)) (va_Qi Q (HB G base) (xA base)) (xX G base X) 3 18 (xA base) := by
  refine vx_ofW (cc := cX5_hasRollup) (maxL := 4) (ret := (some .boolean)) (by decide) rfl ?_
  intro p e s m args below meth c s₁ B hml hout hv
  obtain ⟨rfl, hbase, hh, hK, hX⟩ := hv
  have C0 : BC p s m _ meth c G base RX5 cX5_hasRollup 4 (some .boolean) wsX5_hasRollup := ⟨B.exec, B.bytes, B.returns, hml, findClass_of_methodNamed B.named, atoms_spec (ws := wsX5_hasRollup) B.pre, B.notSynchronized, hK, hbase, hX⟩
  obtain ⟨hx, hb, hr, -, hown, hts, hlocks, -, -, -⟩ := id C0
  have hS : va_S (xA base) s.heap s.heap [] := va_S.rf
  have hl := lv_entry ([.ref a0, .int p1, .int p2, .int p3]) (n := 4) (Nat.le_of_ble_eq_true rfl)
  rw [lg_entry_eq]
  generalize (lg_sl ([.ref a0, .int p1, .int p2, .int p3]) ++ List.replicate (4 - (lg_sl ([.ref a0, .int p1, .int p2, .int p3])).length) Slot.unset).toArray = ls at hl ⊢
  have hl : lv_has ls 4 [(0, .ref a0), (1, .int p1), (2, .int p2), (3, .int p3)] := hl
  unfold wp_X5_hasRollup at h
  refine lv_aload_n hx hb dX5_hasRollup_0 rfl (lv_at hl 0 rfl) ?_
  refine lv_iload_n hx hb dX5_hasRollup_1 rfl (lv_at hl 1 rfl) ?_
  refine lv_iload_n hx hb dX5_hasRollup_2 rfl (lv_at hl 2 rfl) ?_
  refine lv_iload_n hx hb dX5_hasRollup_3 rfl (lv_at hl 3 rfl) ?_
  obtain ⟨g1, h⟩ := h
  refine xt_q (vx_runV (As := [.int p1, .int p2, .int p3]) (rest := []) ⟨hx, hb, hml, hown, hts⟩ (mt_X5_rollupOrNull l hl9 G base h) (cwV 3 hts gX5_hasRollup_X5_rollupOrNull rfl rfl rfl (by decide +kernel) ⟨Nat.le_of_ble_eq_true rfl, Nat.le_of_ble_eq_true rfl⟩) (xp_V hbase hh hK hX hS (ci := 5) g1 (by decide) rfl) rfl rfl hl.1 rfl (lv_room (Nat.le_of_ble_eq_true rfl)) dX5_hasRollup_4 ⟨Nat.le_of_ble_eq_true rfl, Nat.le_of_ble_eq_true rfl⟩) hS (fun k9 m9 H locs q9 ce h hh hS hc9 hv9 hcl9 => xe_out hout hlocks hbase hh hK hX hS h hc9 hv9 hcl9 (Nat.le_of_ble_eq_true rfl) (Nat.le_of_ble_eq_true rfl)) (fun r2 m3 H locs h hh hS => ?_)
  rcases r2 with _ | b4
  · refine W.eq (g2 := F0 m 7 ls [.null]) rfl ?_
    replace h := h.1 rfl
    refine lv_ifnullN (tgt := 14) hx hb dX5_hasRollup_7 (by decide) ?_
    refine lv_iconst (v := 0) hx hb dX5_hasRollup_14 (by decide) ?_
    exact vx_ret (xe_z hx hb hr hlocks hbase hh hK hX hS (Or.inl rfl) h (Nat.le_of_ble_eq_true rfl) (Nat.le_of_ble_eq_true rfl) dX5_hasRollup_15)
  · refine W.eq (g2 := F0 m 7 ls [.ref b4]) rfl ?_
    replace h := h.2 b4 rfl
    refine lv_ifnull hx hb dX5_hasRollup_7 ?_
    refine lv_iconst (v := 1) hx hb dX5_hasRollup_10 (by decide) ?_
    refine lv_goto (tgt := 15) hx hb dX5_hasRollup_11 (by decide) ?_
    exact vx_ret (xe_z hx hb hr hlocks hbase hh hK hX hS (Or.inr rfl) h (Nat.le_of_ble_eq_true rfl) (Nat.le_of_ble_eq_true rfl) dX5_hasRollup_15)

set_option maxHeartbeats 4000000 in
set_option maxRecDepth 100000 in
theorem mtq_X5_hasRollup (l : Launch) (G : GG) (base : Nat) {a0 : Nat} {p1 : Int32} {p2 : Int32} {p3 : Int32} {m0 : MM} {Q : Int32 → MM → Prop} (h : wp_X5_hasRollup a0 p1 p2 p3 m0 Q (fun _ _ => False)) : Met l yX5_hasRollup wsX5_hasRollup ({ frames := 9, cells := 0, slots := 0, locals := 165 }) (va_Pc [.ref a0, .int p1, .int p2, .int p3] (SP G base m0)) (va_Qi Q (HB G base) (xA base)) 0 0 (xA base) := by
  refine Met.ofW (cc := cX5_hasRollup) (maxL := 4) (ret := (some .boolean)) (by decide) rfl ?_
  intro p e s m args below meth c s₁ B hml hv
  obtain ⟨rfl, hbase, hh, hK, hX⟩ := hv
  have C0 : BC p s m _ meth c G base RX5 cX5_hasRollup 4 (some .boolean) wsX5_hasRollup := ⟨B.exec, B.bytes, B.returns, hml, findClass_of_methodNamed B.named, atoms_spec (ws := wsX5_hasRollup) B.pre, B.notSynchronized, hK, hbase, hX⟩
  obtain ⟨hx, hb, hr, -, hown, hts, hlocks, -, -, -⟩ := id C0
  have hS : va_S (xA base) s.heap s.heap [] := va_S.rf
  have hl := lv_entry ([.ref a0, .int p1, .int p2, .int p3]) (n := 4) (Nat.le_of_ble_eq_true rfl)
  rw [lg_entry_eq]
  generalize (lg_sl ([.ref a0, .int p1, .int p2, .int p3]) ++ List.replicate (4 - (lg_sl ([.ref a0, .int p1, .int p2, .int p3])).length) Slot.unset).toArray = ls at hl ⊢
  have hl : lv_has ls 4 [(0, .ref a0), (1, .int p1), (2, .int p2), (3, .int p3)] := hl
  unfold wp_X5_hasRollup at h
  refine lv_aload_n hx hb dX5_hasRollup_0 rfl (lv_at hl 0 rfl) ?_
  refine lv_iload_n hx hb dX5_hasRollup_1 rfl (lv_at hl 1 rfl) ?_
  refine lv_iload_n hx hb dX5_hasRollup_2 rfl (lv_at hl 2 rfl) ?_
  refine lv_iload_n hx hb dX5_hasRollup_3 rfl (lv_at hl 3 rfl) ?_
  obtain ⟨g1, h⟩ := h
  refine xc_q (va_runV (As := [.int p1, .int p2, .int p3]) (rest := []) ⟨hx, hb, hml, hown, hts⟩ (mtq_X5_rollupOrNull l G base h) (cwV 3 hts gX5_hasRollup_X5_rollupOrNull rfl rfl rfl (by decide +kernel) ⟨Nat.le_of_ble_eq_true rfl, Nat.le_of_ble_eq_true rfl⟩) (xp_V hbase hh hK hX hS (ci := 5) g1 (by decide) rfl) rfl rfl hl.1 rfl (lv_room (Nat.le_of_ble_eq_true rfl)) dX5_hasRollup_4 ⟨Nat.le_of_ble_eq_true rfl, Nat.le_of_ble_eq_true rfl⟩) hS (fun r2 m3 H locs h hh hS => ?_)
  rcases r2 with _ | b4
  · refine W.eq (g2 := F0 m 7 ls [.null]) rfl ?_
    replace h := h.1 rfl
    refine lv_ifnullN (tgt := 14) hx hb dX5_hasRollup_7 (by decide) ?_
    refine lv_iconst (v := 0) hx hb dX5_hasRollup_14 (by decide) ?_
    exact (xe_z hx hb hr hlocks hbase hh hK hX hS (Or.inl rfl) h (Nat.le_of_ble_eq_true rfl) (Nat.le_of_ble_eq_true rfl) dX5_hasRollup_15)
  · refine W.eq (g2 := F0 m 7 ls [.ref b4]) rfl ?_
    replace h := h.2 b4 rfl
    refine lv_ifnull hx hb dX5_hasRollup_7 ?_
    refine lv_iconst (v := 1) hx hb dX5_hasRollup_10 (by decide) ?_
    refine lv_goto (tgt := 15) hx hb dX5_hasRollup_11 (by decide) ?_
    exact (xe_z hx hb hr hlocks hbase hh hK hX hS (Or.inr rfl) h (Nat.le_of_ble_eq_true rfl) (Nat.le_of_ble_eq_true rfl) dX5_hasRollup_15)

set_option maxHeartbeats 4000000 in
set_option maxRecDepth 100000 in
theorem mt_X5_timeOfPoint (l : Launch) (hl9 : l.stackTraces = false) (G : GG) (base : Nat) {p1 : Nat} {p2 : Int32} {m0 : MM} {Q : Int32 → MM → Prop} {X : Nat → MM → Prop} (h : wp_X5_timeOfPoint p1 p2 m0 Q X) : vx_Met l yX5_timeOfPoint wsX5_timeOfPoint ({ frames := 6, cells := 1, slots := 6, locals := 96 }) (va_Pc [.ref p1, .int p2] (SP G base m0)) (va_Qi Q (HB G base) (xA base)) (xX G base X) 1 6 (xA base) := by
  refine vx_ofW (cc := cX5_timeOfPoint) (maxL := 2) (ret := (some .int)) (by decide) rfl ?_
  intro p e s m args below meth c s₁ B hml hout hv
  obtain ⟨rfl, hbase, hh, hK, hX⟩ := hv
  have C0 : BC p s m _ meth c G base RX5 cX5_timeOfPoint 2 (some .int) wsX5_timeOfPoint := ⟨B.exec, B.bytes, B.returns, hml, findClass_of_methodNamed B.named, atoms_spec (ws := wsX5_timeOfPoint) B.pre, B.notSynchronized, hK, hbase, hX⟩
  obtain ⟨hx, hb, hr, -, hown, hts, hlocks, -, -, -⟩ := id C0
  have hS : va_S (xA base) s.heap s.heap [] := va_S.rf
  have hl := lv_entry ([.ref p1, .int p2]) (n := 2) (Nat.le_of_ble_eq_true rfl)
  rw [lg_entry_eq]
  generalize (lg_sl ([.ref p1, .int p2]) ++ List.replicate (2 - (lg_sl ([.ref p1, .int p2])).length) Slot.unset).toArray = ls at hl ⊢
  have hl : lv_has ls 2 [(0, .ref p1), (1, .int p2)] := hl
  unfold wp_X5_timeOfPoint at h
  have hW2 : ∀ w ∈ (vx_atS RX5 51 "java/lang/IllegalStateException" ["java/lang/RuntimeException", "java/lang/Exception"]).filter goodWord, w.before _ s = true := fun w h9 => hts w (List.mem_cons_of_mem _ (List.mem_append_right _ (h9)))
  have q2 : (Cond.classLink RX5 47 "java/lang/IllegalStateException").before _ s = true := hts _ (List.mem_cons_of_mem _ (List.mem_append_left _ (List.mem_append_left _ (List.mem_of_getElem? (i := 0) rfl))))
  have q3 : (Cond.initialized "java/lang/IllegalStateException").before _ s = true := hts _ (List.mem_cons_of_mem _ (List.mem_append_left _ (List.mem_append_left _ (List.mem_of_getElem? (i := 1) rfl))))
  have hL0 : ∀ w ∈ u_ws RX0 TX0 3, w.before _ s = true := fun w h9 => hts w (List.mem_cons_of_mem _ (List.mem_append_left _ (List.mem_append_right _ (h9))))
  have q5 : (Cond.fieldLink RX5 243 "RollupStore$Points" "kept" "I").before _ s = true := hts _ (List.mem_cons_of_mem _ (List.mem_append_left _ (List.mem_append_left _ (List.mem_of_getElem? (i := 2) rfl))))
  have q6 : (Cond.fieldLink RX5 251 "RollupStore$Points" "times" "[I").before _ s = true := hts _ (List.mem_cons_of_mem _ (List.mem_append_left _ (List.mem_append_left _ (List.mem_of_getElem? (i := 3) rfl))))
  refine lv_iload_n hx hb dX5_timeOfPoint_0 rfl (lv_at hl 1 rfl) ?_
  refine lv_if_lt (tgt := 12) hx hb dX5_timeOfPoint_1 (by decide) (fun c1 => ?_) (fun c1 => ?_)
  · replace h := h.1 c1
    exact xe_throw2 (text := "there is no such place") (is := 138) hx hb hl9 hout hlocks hbase hh hX hS hown q2 q3 hW2 (List.mem_of_getElem? (i := 2) rfl) (hl.1.trans hml.symm) dX5_timeOfPoint_12 dX5_timeOfPoint_15 dX5_timeOfPoint_16 dX5_timeOfPoint_18 dX5_timeOfPoint_21 (Nat.le_of_ble_eq_true rfl) (Nat.le_of_ble_eq_true rfl) (Nat.le_of_ble_eq_true rfl) (Nat.le_of_ble_eq_true rfl) h (Nat.le_of_ble_eq_true rfl) (Nat.le_of_ble_eq_true rfl)
  · replace h := h.2 c1
    refine lv_iload_n hx hb dX5_timeOfPoint_4 rfl (lv_at hl 1 rfl) ?_
    refine lv_aload_n hx hb dX5_timeOfPoint_5 rfl (lv_at hl 0 rfl) ?_
    obtain ⟨g2, h⟩ := h
    refine xr_getI (ci := 0) (C := RX0) (T := TX0) (N := 3) hx hb hL0 hown hK hh g2 (by decide) rfl 2 2 rfl rfl (by decide) (by decide) q5 (fun _ h9 => h9) dX5_timeOfPoint_6 ?_
    refine lv_icmp_lt (tgt := 22) hx hb dX5_timeOfPoint_9 (by decide) (fun c3 => ?_) (fun c3 => ?_)
    · replace h := h.1 c3
      refine lv_aload_n hx hb dX5_timeOfPoint_22 rfl (lv_at hl 0 rfl) ?_
      obtain ⟨g4, h⟩ := h
      obtain ⟨b5, eb5, h⟩ := h
      refine xr_getR (ci := 0) (C := RX0) (T := TX0) (N := 3) hx hb hL0 hown hK hh g4 (by decide) rfl 0 0 rfl rfl (by decide) (by decide) q6 (fun _ h9 => h9) eb5 dX5_timeOfPoint_23 ?_
      refine lv_iload_n hx hb dX5_timeOfPoint_26 rfl (lv_at hl 1 rfl) ?_
      obtain ⟨g6, h⟩ := h
      obtain ⟨g7, h⟩ := h
      refine xr_iald hx hb hK hh g6 g7 dX5_timeOfPoint_27 ?_
      exact vx_ret (xe_i hx hb hr hlocks hbase hh hK hX hS h (Nat.le_of_ble_eq_true rfl) (Nat.le_of_ble_eq_true rfl) dX5_timeOfPoint_28)
    · replace h := h.2 c3
      exact xe_throw2 (text := "there is no such place") (is := 138) hx hb hl9 hout hlocks hbase hh hX hS hown q2 q3 hW2 (List.mem_of_getElem? (i := 2) rfl) (hl.1.trans hml.symm) dX5_timeOfPoint_12 dX5_timeOfPoint_15 dX5_timeOfPoint_16 dX5_timeOfPoint_18 dX5_timeOfPoint_21 (Nat.le_of_ble_eq_true rfl) (Nat.le_of_ble_eq_true rfl) (Nat.le_of_ble_eq_true rfl) (Nat.le_of_ble_eq_true rfl) h (Nat.le_of_ble_eq_true rfl) (Nat.le_of_ble_eq_true rfl)

set_option maxHeartbeats 4000000 in
set_option maxRecDepth 100000 in
theorem mtq_X5_timeOfPoint (l : Launch) (G : GG) (base : Nat) {p1 : Nat} {p2 : Int32} {m0 : MM} {Q : Int32 → MM → Prop} (h : wp_X5_timeOfPoint p1 p2 m0 Q (fun _ _ => False)) : Met l yX5_timeOfPoint wsX5_timeOfPoint ({ frames := 6, cells := 0, slots := 0, locals := 96 }) (va_Pc [.ref p1, .int p2] (SP G base m0)) (va_Qi Q (HB G base) (xA base)) 0 0 (xA base) := by
  refine Met.ofW (cc := cX5_timeOfPoint) (maxL := 2) (ret := (some .int)) (by decide) rfl ?_
  intro p e s m args below meth c s₁ B hml hv
  obtain ⟨rfl, hbase, hh, hK, hX⟩ := hv
  have C0 : BC p s m _ meth c G base RX5 cX5_timeOfPoint 2 (some .int) wsX5_timeOfPoint := ⟨B.exec, B.bytes, B.returns, hml, findClass_of_methodNamed B.named, atoms_spec (ws := wsX5_timeOfPoint) B.pre, B.notSynchronized, hK, hbase, hX⟩
  obtain ⟨hx, hb, hr, -, hown, hts, hlocks, -, -, -⟩ := id C0
  have hS : va_S (xA base) s.heap s.heap [] := va_S.rf
  have hl := lv_entry ([.ref p1, .int p2]) (n := 2) (Nat.le_of_ble_eq_true rfl)
  rw [lg_entry_eq]
  generalize (lg_sl ([.ref p1, .int p2]) ++ List.replicate (2 - (lg_sl ([.ref p1, .int p2])).length) Slot.unset).toArray = ls at hl ⊢
  have hl : lv_has ls 2 [(0, .ref p1), (1, .int p2)] := hl
  unfold wp_X5_timeOfPoint at h
  have hL0 : ∀ w ∈ u_ws RX0 TX0 3, w.before _ s = true := fun w h9 => hts w (List.mem_cons_of_mem _ (List.mem_append_left _ (List.mem_append_right _ (h9))))
  have q2 : (Cond.fieldLink RX5 243 "RollupStore$Points" "kept" "I").before _ s = true := hts _ (List.mem_cons_of_mem _ (List.mem_append_left _ (List.mem_append_left _ (List.mem_of_getElem? (i := 2) rfl))))
  have q3 : (Cond.fieldLink RX5 251 "RollupStore$Points" "times" "[I").before _ s = true := hts _ (List.mem_cons_of_mem _ (List.mem_append_left _ (List.mem_append_left _ (List.mem_of_getElem? (i := 3) rfl))))
  refine lv_iload_n hx hb dX5_timeOfPoint_0 rfl (lv_at hl 1 rfl) ?_
  refine lv_if_lt (tgt := 12) hx hb dX5_timeOfPoint_1 (by decide) (fun c1 => ?_) (fun c1 => ?_)
  · replace h := h.1 c1
    exact h.elim
  · replace h := h.2 c1
    refine lv_iload_n hx hb dX5_timeOfPoint_4 rfl (lv_at hl 1 rfl) ?_
    refine lv_aload_n hx hb dX5_timeOfPoint_5 rfl (lv_at hl 0 rfl) ?_
    obtain ⟨g2, h⟩ := h
    refine xr_getI (ci := 0) (C := RX0) (T := TX0) (N := 3) hx hb hL0 hown hK hh g2 (by decide) rfl 2 2 rfl rfl (by decide) (by decide) q2 (fun _ h9 => h9) dX5_timeOfPoint_6 ?_
    refine lv_icmp_lt (tgt := 22) hx hb dX5_timeOfPoint_9 (by decide) (fun c3 => ?_) (fun c3 => ?_)
    · replace h := h.1 c3
      refine lv_aload_n hx hb dX5_timeOfPoint_22 rfl (lv_at hl 0 rfl) ?_
      obtain ⟨g4, h⟩ := h
      obtain ⟨b5, eb5, h⟩ := h
      refine xr_getR (ci := 0) (C := RX0) (T := TX0) (N := 3) hx hb hL0 hown hK hh g4 (by decide) rfl 0 0 rfl rfl (by decide) (by decide) q3 (fun _ h9 => h9) eb5 dX5_timeOfPoint_23 ?_
      refine lv_iload_n hx hb dX5_timeOfPoint_26 rfl (lv_at hl 1 rfl) ?_
      obtain ⟨g6, h⟩ := h
      obtain ⟨g7, h⟩ := h
      refine xr_iald hx hb hK hh g6 g7 dX5_timeOfPoint_27 ?_
      exact (xe_i hx hb hr hlocks hbase hh hK hX hS h (Nat.le_of_ble_eq_true rfl) (Nat.le_of_ble_eq_true rfl) dX5_timeOfPoint_28)
    · replace h := h.2 c3
      exact h.elim

set_option maxHeartbeats 4000000 in
set_option maxRecDepth 100000 in
theorem mt_X5_timeOf (l : Launch) (hl9 : l.stackTraces = false) (G : GG) (base : Nat) {a0 : Nat} {p1 : Int32} {p2 : Int32} {p3 : Int32} {m0 : MM} {Q : Int32 → MM → Prop} {X : Nat → MM → Prop} (h : wp_X5_timeOf a0 p1 p2 p3 m0 Q X) : vx_Met l yX5_timeOf wsX5_timeOf ({ frames := 7, cells := 3, slots := 18, locals := 118 }) (va_Pc [.ref a0, .int p1, .int p2, .int p3] (SP G base m0)) (va_Qi Q (HB G base) (xA base)) (xX G base X) 3 18 (xA base) := by
  refine vx_ofW (cc := cX5_timeOf) (maxL := 6) (ret := (some .int)) (by decide) rfl ?_
  intro p e s m args below meth c s₁ B hml hout hv
  obtain ⟨rfl, hbase, hh, hK, hX⟩ := hv
  have C0 : BC p s m _ meth c G base RX5 cX5_timeOf 6 (some .int) wsX5_timeOf := ⟨B.exec, B.bytes, B.returns, hml, findClass_of_methodNamed B.named, atoms_spec (ws := wsX5_timeOf) B.pre, B.notSynchronized, hK, hbase, hX⟩
  obtain ⟨hx, hb, hr, -, hown, hts, hlocks, -, -, -⟩ := id C0
  have hS : va_S (xA base) s.heap s.heap [] := va_S.rf
  have hl := lv_entry ([.ref a0, .int p1, .int p2, .int p3]) (n := 6) (Nat.le_of_ble_eq_true rfl)
  rw [lg_entry_eq]
  generalize (lg_sl ([.ref a0, .int p1, .int p2, .int p3]) ++ List.replicate (6 - (lg_sl ([.ref a0, .int p1, .int p2, .int p3])).length) Slot.unset).toArray = ls at hl ⊢
  have hl : lv_has ls 6 [(0, .ref a0), (1, .int p1), (2, .int p2), (3, .int p3)] := hl
  unfold wp_X5_timeOf at h
  have hW2 : ∀ w ∈ (vx_atS RX5 51 "java/lang/IllegalStateException" ["java/lang/RuntimeException", "java/lang/Exception"]).filter goodWord, w.before _ s = true := fun w h9 => hts w (List.mem_cons_of_mem _ (List.mem_append_left _ (List.mem_append_left _ (List.mem_append_right _ (h9)))))
  have q2 : (Cond.classLink RX5 47 "java/lang/IllegalStateException").before _ s = true := hts _ (List.mem_cons_of_mem _ (List.mem_append_left _ (List.mem_append_left _ (List.mem_append_left _ (List.mem_append_left _ (List.mem_append_left _ (List.mem_append_left _ (List.mem_append_left _ (List.mem_append_left _ (List.mem_append_left _ (List.mem_of_getElem? (i := 0) rfl)))))))))))
  have q3 : (Cond.initialized "java/lang/IllegalStateException").before _ s = true := hts _ (List.mem_cons_of_mem _ (List.mem_append_left _ (List.mem_append_left _ (List.mem_append_left _ (List.mem_append_left _ (List.mem_append_left _ (List.mem_append_left _ (List.mem_append_left _ (List.mem_append_left _ (List.mem_append_left _ (List.mem_of_getElem? (i := 1) rfl)))))))))))
  have hL1 : ∀ w ∈ u_ws RX1 TX1 8, w.before _ s = true := fun w h9 => hts w (List.mem_cons_of_mem _ (List.mem_append_left _ (List.mem_append_left _ (List.mem_append_left _ (List.mem_append_left _ (List.mem_append_left _ (List.mem_append_left _ (List.mem_append_right _ (h9)))))))))
  have q5 : (Cond.fieldLink RX5 140 "RollupStore$Rollup" "begin" "I").before _ s = true := hts _ (List.mem_cons_of_mem _ (List.mem_append_left _ (List.mem_append_left _ (List.mem_append_left _ (List.mem_append_left _ (List.mem_append_left _ (List.mem_append_left _ (List.mem_append_left _ (List.mem_append_left _ (List.mem_append_left _ (List.mem_of_getElem? (i := 3) rfl)))))))))))
  have hL3 : ∀ w ∈ u_ws RX3 TX3 5, w.before _ s = true := fun w h9 => hts w (List.mem_cons_of_mem _ (List.mem_append_left _ (List.mem_append_left _ (List.mem_append_left _ (List.mem_append_left _ (List.mem_append_left _ (List.mem_append_left _ (List.mem_append_left _ (List.mem_append_right _ (h9))))))))))
  have q7 : (Cond.fieldLink RX5 91 "RollupStore$Series" "points" "LRollupStore$Points;").before _ s = true := hts _ (List.mem_cons_of_mem _ (List.mem_append_left _ (List.mem_append_left _ (List.mem_append_left _ (List.mem_append_left _ (List.mem_append_left _ (List.mem_append_left _ (List.mem_append_left _ (List.mem_append_left _ (List.mem_append_left _ (List.mem_of_getElem? (i := 2) rfl)))))))))))
  refine lv_aload_n hx hb dX5_timeOf_0 rfl (lv_at hl 0 rfl) ?_
  refine lv_iload_n hx hb dX5_timeOf_1 rfl (lv_at hl 1 rfl) ?_
  obtain ⟨g1, h⟩ := h
  refine xt_q (vx_runV (As := [.int p1]) (rest := []) ⟨hx, hb, hml, hown, hts⟩ (mt_X5_seriesAt l hl9 G base h) (cwV 1 hts gX5_timeOf_X5_seriesAt rfl rfl rfl (by decide +kernel) ⟨Nat.le_of_ble_eq_true rfl, Nat.le_of_ble_eq_true rfl⟩) (xp_V hbase hh hK hX hS (ci := 5) g1 (by decide) rfl) rfl rfl hl.1 rfl (lv_room (Nat.le_of_ble_eq_true rfl)) dX5_timeOf_2 ⟨Nat.le_of_ble_eq_true rfl, Nat.le_of_ble_eq_true rfl⟩) hS (fun k9 m9 H locs q9 ce h hh hS hc9 hv9 hcl9 => xe_out hout hlocks hbase hh hK hX hS h hc9 hv9 hcl9 (Nat.le_of_ble_eq_true rfl) (Nat.le_of_ble_eq_true rfl)) (fun r2 m3 H locs h hh hS => ?_)
  obtain ⟨b4, eb4, h⟩ := h
  rw [eb4]
  refine W.eq (g2 := F0 m 5 ls [.ref b4]) rfl ?_
  refine lv_astore (lv' := [(4, .ref b4), (0, .ref a0), (1, .int p1), (2, .int p2), (3, .int p3)]) hx hb dX5_timeOf_5 hl (by decide) rfl (fun ls hl => ?_)
  refine lv_iload_n hx hb dX5_timeOf_7 rfl (lv_at hl 3 rfl) ?_
  refine lv_iconst (v := 0) hx hb dX5_timeOf_8 (by decide) ?_
  refine lv_iconst (v := 3) hx hb dX5_timeOf_9 (by decide) ?_
  refine xt_v (vx_runS (As := [.int p2, .int (0 : Int32), .int (3 : Int32)]) (rest := []) ⟨hx, hb, hml, hown, hts⟩ (mt_X5_needRange l hl9 G base h) (va_cwS 3 hts gX5_timeOf_X5_needRange rfl rfl rfl (by decide +kernel) ⟨Nat.le_of_ble_eq_true rfl, Nat.le_of_ble_eq_true rfl⟩) (xp_S hbase hh hK hX hS) rfl rfl hl.1 rfl (lv_room (Nat.le_of_ble_eq_true rfl)) dX5_timeOf_10 ⟨Nat.le_of_ble_eq_true rfl, Nat.le_of_ble_eq_true rfl⟩) hS (fun k9 m9 H locs q9 ce h hh hS hc9 hv9 hcl9 => xe_out hout hlocks hbase hh hK hX hS h hc9 hv9 hcl9 (Nat.le_of_ble_eq_true rfl) (Nat.le_of_ble_eq_true rfl)) (fun m6 H locs h hh hS => ?_)
  refine lv_iload_n hx hb dX5_timeOf_13 rfl (lv_at hl 3 rfl) ?_
  refine lv_if_ne (tgt := 27) hx hb dX5_timeOf_14 (by decide) (fun c7 => ?_) (fun c7 => ?_)
  · replace h := h.1 c7
    refine lv_aload hx hb dX5_timeOf_27 (lv_at hl 0 rfl) ?_
    refine lv_iload_n hx hb dX5_timeOf_29 rfl (lv_at hl 3 rfl) ?_
    obtain ⟨g8, h⟩ := h
    refine xc_q (va_runV (As := [.int p2]) (rest := []) ⟨hx, hb, hml, hown, hts⟩ (mt_X3_rollupsOf l G base h) (cwV 1 hts gX5_timeOf_X3_rollupsOf rfl rfl rfl (by decide +kernel) ⟨Nat.le_of_ble_eq_true rfl, Nat.le_of_ble_eq_true rfl⟩) (xp_V hbase hh hK hX hS (ci := 3) g8 (by decide) rfl) rfl rfl hl.1 rfl (lv_room (Nat.le_of_ble_eq_true rfl)) dX5_timeOf_30 ⟨Nat.le_of_ble_eq_true rfl, Nat.le_of_ble_eq_true rfl⟩) hS (fun r9 m10 H locs h hh hS => ?_)
    refine lv_iload_n hx hb dX5_timeOf_33 rfl (lv_at hl 4 rfl) ?_
    obtain ⟨b11, eb11, h⟩ := h
    rw [eb11]
    refine W.eq (g2 := F0 m 34 ls [.int p3, .ref b11]) rfl ?_
    obtain ⟨g12, h⟩ := h
    refine xc_q (va_runV (As := [.int p3]) (rest := []) ⟨hx, hb, hml, hown, hts⟩ (mt_X2_rowOrNull l G base h) (cwV 1 hts gX5_timeOf_X2_rowOrNull rfl rfl rfl (by decide +kernel) ⟨Nat.le_of_ble_eq_true rfl, Nat.le_of_ble_eq_true rfl⟩) (xp_V hbase hh hK hX hS (ci := 2) g12 (by decide) rfl) rfl rfl hl.1 rfl (lv_room (Nat.le_of_ble_eq_true rfl)) dX5_timeOf_34 ⟨Nat.le_of_ble_eq_true rfl, Nat.le_of_ble_eq_true rfl⟩) hS (fun r13 m14 H locs h hh hS => ?_)
    rcases r13 with _ | b15
    · refine W.eq (g2 := F0 m 37 ls [.null]) rfl ?_
      replace h := h.1 rfl
      refine lv_astoreN (lv' := [(5, .null), (4, .ref b4), (0, .ref a0), (1, .int p1), (2, .int p2), (3, .int p3)]) hx hb dX5_timeOf_37 hl (by decide) rfl (fun ls hl => ?_)
      refine lv_aloadN hx hb dX5_timeOf_39 (lv_at hl 0 rfl) ?_
      refine lv_ifnonnullN hx hb dX5_timeOf_41 ?_
      exact xe_throw2 (text := "there is no such place") (is := 138) hx hb hl9 hout hlocks hbase hh hX hS hown q2 q3 hW2 (List.mem_of_getElem? (i := 2) rfl) (hl.1.trans hml.symm) dX5_timeOf_44 dX5_timeOf_47 dX5_timeOf_48 dX5_timeOf_50 dX5_timeOf_53 (Nat.le_of_ble_eq_true rfl) (Nat.le_of_ble_eq_true rfl) (Nat.le_of_ble_eq_true rfl) (Nat.le_of_ble_eq_true rfl) h (Nat.le_of_ble_eq_true rfl) (Nat.le_of_ble_eq_true rfl)
    · refine W.eq (g2 := F0 m 37 ls [.ref b15]) rfl ?_
      replace h := h.2 b15 rfl
      refine lv_astore (lv' := [(5, .ref b15), (4, .ref b4), (0, .ref a0), (1, .int p1), (2, .int p2), (3, .int p3)]) hx hb dX5_timeOf_37 hl (by decide) rfl (fun ls hl => ?_)
      refine lv_aload hx hb dX5_timeOf_39 (lv_at hl 0 rfl) ?_
      refine lv_ifnonnull (tgt := 54) hx hb dX5_timeOf_41 (by decide) ?_
      refine lv_aload hx hb dX5_timeOf_54 (lv_at hl 0 rfl) ?_
      obtain ⟨g16, h⟩ := h
      refine xr_getI (ci := 1) (C := RX1) (T := TX1) (N := 8) hx hb hL1 hown hK hh g16 (by decide) rfl 0 20 rfl rfl (by decide) (by decide) q5 (fun _ h9 => h9) dX5_timeOf_56 ?_
      exact vx_ret (xe_i hx hb hr hlocks hbase hh hK hX hS h (Nat.le_of_ble_eq_true rfl) (Nat.le_of_ble_eq_true rfl) dX5_timeOf_59)
  · replace h := h.2 c7
    refine lv_aload hx hb dX5_timeOf_17 (lv_at hl 0 rfl) ?_
    obtain ⟨g17, h⟩ := h
    obtain ⟨b18, eb18, h⟩ := h
    refine xr_getR (ci := 3) (C := RX3) (T := TX3) (N := 5) hx hb hL3 hown hK hh g17 (by decide) rfl 1 61 rfl rfl (by decide) (by decide) q7 (fun _ h9 => h9) eb18 dX5_timeOf_19 ?_
    refine lv_iload_n hx hb dX5_timeOf_22 rfl (lv_at hl 4 rfl) ?_
    refine xt_i (vx_runS (As := [.ref b18, .int p3]) (rest := []) ⟨hx, hb, hml, hown, hts⟩ (mt_X5_timeOfPoint l hl9 G base h) (va_cwS 2 hts gX5_timeOf_X5_timeOfPoint rfl rfl rfl (by decide +kernel) ⟨Nat.le_of_ble_eq_true rfl, Nat.le_of_ble_eq_true rfl⟩) (xp_S hbase hh hK hX hS) rfl rfl hl.1 rfl (lv_room (Nat.le_of_ble_eq_true rfl)) dX5_timeOf_23 ⟨Nat.le_of_ble_eq_true rfl, Nat.le_of_ble_eq_true rfl⟩) hS (fun k9 m9 H locs q9 ce h hh hS hc9 hv9 hcl9 => xe_out hout hlocks hbase hh hK hX hS h hc9 hv9 hcl9 (Nat.le_of_ble_eq_true rfl) (Nat.le_of_ble_eq_true rfl)) (fun r19 m20 H locs h hh hS => ?_)
    exact vx_ret (xe_i hx hb hr hlocks hbase hh hK hX hS h (Nat.le_of_ble_eq_true rfl) (Nat.le_of_ble_eq_true rfl) dX5_timeOf_26)

set_option maxHeartbeats 4000000 in
set_option maxRecDepth 100000 in
theorem mtq_X5_timeOf (l : Launch) (G : GG) (base : Nat) {a0 : Nat} {p1 : Int32} {p2 : Int32} {p3 : Int32} {m0 : MM} {Q : Int32 → MM → Prop} (h : wp_X5_timeOf a0 p1 p2 p3 m0 Q (fun _ _ => False)) : Met l yX5_timeOf wsX5_timeOf ({ frames := 7, cells := 0, slots := 0, locals := 118 }) (va_Pc [.ref a0, .int p1, .int p2, .int p3] (SP G base m0)) (va_Qi Q (HB G base) (xA base)) 0 0 (xA base) := by
  refine Met.ofW (cc := cX5_timeOf) (maxL := 6) (ret := (some .int)) (by decide) rfl ?_
  intro p e s m args below meth c s₁ B hml hv
  obtain ⟨rfl, hbase, hh, hK, hX⟩ := hv
  have C0 : BC p s m _ meth c G base RX5 cX5_timeOf 6 (some .int) wsX5_timeOf := ⟨B.exec, B.bytes, B.returns, hml, findClass_of_methodNamed B.named, atoms_spec (ws := wsX5_timeOf) B.pre, B.notSynchronized, hK, hbase, hX⟩
  obtain ⟨hx, hb, hr, -, hown, hts, hlocks, -, -, -⟩ := id C0
  have hS : va_S (xA base) s.heap s.heap [] := va_S.rf
  have hl := lv_entry ([.ref a0, .int p1, .int p2, .int p3]) (n := 6) (Nat.le_of_ble_eq_true rfl)
  rw [lg_entry_eq]
  generalize (lg_sl ([.ref a0, .int p1, .int p2, .int p3]) ++ List.replicate (6 - (lg_sl ([.ref a0, .int p1, .int p2, .int p3])).length) Slot.unset).toArray = ls at hl ⊢
  have hl : lv_has ls 6 [(0, .ref a0), (1, .int p1), (2, .int p2), (3, .int p3)] := hl
  unfold wp_X5_timeOf at h
  have hL1 : ∀ w ∈ u_ws RX1 TX1 8, w.before _ s = true := fun w h9 => hts w (List.mem_cons_of_mem _ (List.mem_append_left _ (List.mem_append_left _ (List.mem_append_left _ (List.mem_append_left _ (List.mem_append_left _ (List.mem_append_left _ (List.mem_append_right _ (h9)))))))))
  have q2 : (Cond.fieldLink RX5 140 "RollupStore$Rollup" "begin" "I").before _ s = true := hts _ (List.mem_cons_of_mem _ (List.mem_append_left _ (List.mem_append_left _ (List.mem_append_left _ (List.mem_append_left _ (List.mem_append_left _ (List.mem_append_left _ (List.mem_append_left _ (List.mem_append_left _ (List.mem_append_left _ (List.mem_of_getElem? (i := 3) rfl)))))))))))
  have hL3 : ∀ w ∈ u_ws RX3 TX3 5, w.before _ s = true := fun w h9 => hts w (List.mem_cons_of_mem _ (List.mem_append_left _ (List.mem_append_left _ (List.mem_append_left _ (List.mem_append_left _ (List.mem_append_left _ (List.mem_append_left _ (List.mem_append_left _ (List.mem_append_right _ (h9))))))))))
  have q4 : (Cond.fieldLink RX5 91 "RollupStore$Series" "points" "LRollupStore$Points;").before _ s = true := hts _ (List.mem_cons_of_mem _ (List.mem_append_left _ (List.mem_append_left _ (List.mem_append_left _ (List.mem_append_left _ (List.mem_append_left _ (List.mem_append_left _ (List.mem_append_left _ (List.mem_append_left _ (List.mem_append_left _ (List.mem_of_getElem? (i := 2) rfl)))))))))))
  refine lv_aload_n hx hb dX5_timeOf_0 rfl (lv_at hl 0 rfl) ?_
  refine lv_iload_n hx hb dX5_timeOf_1 rfl (lv_at hl 1 rfl) ?_
  obtain ⟨g1, h⟩ := h
  refine xc_q (va_runV (As := [.int p1]) (rest := []) ⟨hx, hb, hml, hown, hts⟩ (mtq_X5_seriesAt l G base h) (cwV 1 hts gX5_timeOf_X5_seriesAt rfl rfl rfl (by decide +kernel) ⟨Nat.le_of_ble_eq_true rfl, Nat.le_of_ble_eq_true rfl⟩) (xp_V hbase hh hK hX hS (ci := 5) g1 (by decide) rfl) rfl rfl hl.1 rfl (lv_room (Nat.le_of_ble_eq_true rfl)) dX5_timeOf_2 ⟨Nat.le_of_ble_eq_true rfl, Nat.le_of_ble_eq_true rfl⟩) hS (fun r2 m3 H locs h hh hS => ?_)
  obtain ⟨b4, eb4, h⟩ := h
  rw [eb4]
  refine W.eq (g2 := F0 m 5 ls [.ref b4]) rfl ?_
  refine lv_astore (lv' := [(4, .ref b4), (0, .ref a0), (1, .int p1), (2, .int p2), (3, .int p3)]) hx hb dX5_timeOf_5 hl (by decide) rfl (fun ls hl => ?_)
  refine lv_iload_n hx hb dX5_timeOf_7 rfl (lv_at hl 3 rfl) ?_
  refine lv_iconst (v := 0) hx hb dX5_timeOf_8 (by decide) ?_
  refine lv_iconst (v := 3) hx hb dX5_timeOf_9 (by decide) ?_
  refine xc_v (va_runS (As := [.int p2, .int (0 : Int32), .int (3 : Int32)]) (rest := []) ⟨hx, hb, hml, hown, hts⟩ (mtq_X5_needRange l G base h) (va_cwS 3 hts gX5_timeOf_X5_needRange rfl rfl rfl (by decide +kernel) ⟨Nat.le_of_ble_eq_true rfl, Nat.le_of_ble_eq_true rfl⟩) (xp_S hbase hh hK hX hS) rfl rfl hl.1 rfl (lv_room (Nat.le_of_ble_eq_true rfl)) dX5_timeOf_10 ⟨Nat.le_of_ble_eq_true rfl, Nat.le_of_ble_eq_true rfl⟩) hS (fun m6 H locs h hh hS => ?_)
  refine lv_iload_n hx hb dX5_timeOf_13 rfl (lv_at hl 3 rfl) ?_
  refine lv_if_ne (tgt := 27) hx hb dX5_timeOf_14 (by decide) (fun c7 => ?_) (fun c7 => ?_)
  · replace h := h.1 c7
    refine lv_aload hx hb dX5_timeOf_27 (lv_at hl 0 rfl) ?_
    refine lv_iload_n hx hb dX5_timeOf_29 rfl (lv_at hl 3 rfl) ?_
    obtain ⟨g8, h⟩ := h
    refine xc_q (va_runV (As := [.int p2]) (rest := []) ⟨hx, hb, hml, hown, hts⟩ (mt_X3_rollupsOf l G base h) (cwV 1 hts gX5_timeOf_X3_rollupsOf rfl rfl rfl (by decide +kernel) ⟨Nat.le_of_ble_eq_true rfl, Nat.le_of_ble_eq_true rfl⟩) (xp_V hbase hh hK hX hS (ci := 3) g8 (by decide) rfl) rfl rfl hl.1 rfl (lv_room (Nat.le_of_ble_eq_true rfl)) dX5_timeOf_30 ⟨Nat.le_of_ble_eq_true rfl, Nat.le_of_ble_eq_true rfl⟩) hS (fun r9 m10 H locs h hh hS => ?_)
    refine lv_iload_n hx hb dX5_timeOf_33 rfl (lv_at hl 4 rfl) ?_
    obtain ⟨b11, eb11, h⟩ := h
    rw [eb11]
    refine W.eq (g2 := F0 m 34 ls [.int p3, .ref b11]) rfl ?_
    obtain ⟨g12, h⟩ := h
    refine xc_q (va_runV (As := [.int p3]) (rest := []) ⟨hx, hb, hml, hown, hts⟩ (mt_X2_rowOrNull l G base h) (cwV 1 hts gX5_timeOf_X2_rowOrNull rfl rfl rfl (by decide +kernel) ⟨Nat.le_of_ble_eq_true rfl, Nat.le_of_ble_eq_true rfl⟩) (xp_V hbase hh hK hX hS (ci := 2) g12 (by decide) rfl) rfl rfl hl.1 rfl (lv_room (Nat.le_of_ble_eq_true rfl)) dX5_timeOf_34 ⟨Nat.le_of_ble_eq_true rfl, Nat.le_of_ble_eq_true rfl⟩) hS (fun r13 m14 H locs h hh hS => ?_)
    rcases r13 with _ | b15
    · refine W.eq (g2 := F0 m 37 ls [.null]) rfl ?_
      replace h := h.1 rfl
      refine lv_astoreN (lv' := [(5, .null), (4, .ref b4), (0, .ref a0), (1, .int p1), (2, .int p2), (3, .int p3)]) hx hb dX5_timeOf_37 hl (by decide) rfl (fun ls hl => ?_)
      refine lv_aloadN hx hb dX5_timeOf_39 (lv_at hl 0 rfl) ?_
      refine lv_ifnonnullN hx hb dX5_timeOf_41 ?_
      exact h.elim
    · refine W.eq (g2 := F0 m 37 ls [.ref b15]) rfl ?_
      replace h := h.2 b15 rfl
      refine lv_astore (lv' := [(5, .ref b15), (4, .ref b4), (0, .ref a0), (1, .int p1), (2, .int p2), (3, .int p3)]) hx hb dX5_timeOf_37 hl (by decide) rfl (fun ls hl => ?_)
      refine lv_aload hx hb dX5_timeOf_39 (lv_at hl 0 rfl) ?_
      refine lv_ifnonnull (tgt := 54) hx hb dX5_timeOf_41 (by decide) ?_
      refine lv_aload hx hb dX5_timeOf_54 (lv_at hl 0 rfl) ?_
      obtain ⟨g16, h⟩ := h
      refine xr_getI (ci := 1) (C := RX1) (T := TX1) (N := 8) hx hb hL1 hown hK hh g16 (by decide) rfl 0 20 rfl rfl (by decide) (by decide) q2 (fun _ h9 => h9) dX5_timeOf_56 ?_
      exact (xe_i hx hb hr hlocks hbase hh hK hX hS h (Nat.le_of_ble_eq_true rfl) (Nat.le_of_ble_eq_true rfl) dX5_timeOf_59)
  · replace h := h.2 c7
    refine lv_aload hx hb dX5_timeOf_17 (lv_at hl 0 rfl) ?_
    obtain ⟨g17, h⟩ := h
    obtain ⟨b18, eb18, h⟩ := h
    refine xr_getR (ci := 3) (C := RX3) (T := TX3) (N := 5) hx hb hL3 hown hK hh g17 (by decide) rfl 1 61 rfl rfl (by decide) (by decide) q4 (fun _ h9 => h9) eb18 dX5_timeOf_19 ?_
    refine lv_iload_n hx hb dX5_timeOf_22 rfl (lv_at hl 4 rfl) ?_
    refine xc_i (va_runS (As := [.ref b18, .int p3]) (rest := []) ⟨hx, hb, hml, hown, hts⟩ (mtq_X5_timeOfPoint l G base h) (va_cwS 2 hts gX5_timeOf_X5_timeOfPoint rfl rfl rfl (by decide +kernel) ⟨Nat.le_of_ble_eq_true rfl, Nat.le_of_ble_eq_true rfl⟩) (xp_S hbase hh hK hX hS) rfl rfl hl.1 rfl (lv_room (Nat.le_of_ble_eq_true rfl)) dX5_timeOf_23 ⟨Nat.le_of_ble_eq_true rfl, Nat.le_of_ble_eq_true rfl⟩) hS (fun r19 m20 H locs h hh hS => ?_)
    exact (xe_i hx hb hr hlocks hbase hh hK hX hS h (Nat.le_of_ble_eq_true rfl) (Nat.le_of_ble_eq_true rfl) dX5_timeOf_26)

set_option maxHeartbeats 4000000 in
set_option maxRecDepth 100000 in
theorem mt_X5_needWindow (l : Launch) (hl9 : l.stackTraces = false) (G : GG) (base : Nat) {p1 : Int32} {p2 : Int32} {p3 : Int32} {m0 : MM} {Q : MM → Prop} {X : Nat → MM → Prop} (h : wp_X5_needWindow p1 p2 p3 m0 Q X) : vx_Met l yX5_needWindow wsX5_needWindow ({ frames := 6, cells := 1, slots := 6, locals := 96 }) (va_Pc [.int p1, .int p2, .int p3] (SP G base m0)) (va_Qv Q (HB G base) (xA base)) (xX G base X) 1 6 (xA base) := by
  refine vx_ofW (cc := cX5_needWindow) (maxL := 3) (ret := none) (by decide) rfl ?_
  intro p e s m args below meth c s₁ B hml hout hv
  obtain ⟨rfl, hbase, hh, hK, hX⟩ := hv
  have C0 : BC p s m _ meth c G base RX5 cX5_needWindow 3 none wsX5_needWindow := ⟨B.exec, B.bytes, B.returns, hml, findClass_of_methodNamed B.named, atoms_spec (ws := wsX5_needWindow) B.pre, B.notSynchronized, hK, hbase, hX⟩
  obtain ⟨hx, hb, hr, -, hown, hts, hlocks, -, -, -⟩ := id C0
  have hS : va_S (xA base) s.heap s.heap [] := va_S.rf
  have hl := lv_entry ([.int p1, .int p2, .int p3]) (n := 3) (Nat.le_of_ble_eq_true rfl)
  rw [lg_entry_eq]
  generalize (lg_sl ([.int p1, .int p2, .int p3]) ++ List.replicate (3 - (lg_sl ([.int p1, .int p2, .int p3])).length) Slot.unset).toArray = ls at hl ⊢
  have hl : lv_has ls 3 [(0, .int p1), (1, .int p2), (2, .int p3)] := hl
  unfold wp_X5_needWindow at h
  have hW1 : ∀ w ∈ (vx_atS RX5 222 "java/lang/IllegalArgumentException" ["java/lang/RuntimeException", "java/lang/Exception"]).filter goodWord, w.before _ s = true := fun w h9 => hts w (List.mem_cons_of_mem _ (List.mem_append_right _ (h9)))
  have q2 : (Cond.classLink RX5 218 "java/lang/IllegalArgumentException").before _ s = true := hts _ (List.mem_cons_of_mem _ (List.mem_append_left _ (List.mem_of_getElem? (i := 0) rfl)))
  have q3 : (Cond.initialized "java/lang/IllegalArgumentException").before _ s = true := hts _ (List.mem_cons_of_mem _ (List.mem_append_left _ (List.mem_of_getElem? (i := 1) rfl)))
  refine lv_iload_n hx hb dX5_needWindow_0 rfl (lv_at hl 0 rfl) ?_
  refine lv_if_lt (tgt := 26) hx hb dX5_needWindow_1 (by decide) (fun c1 => ?_) (fun c1 => ?_)
  · replace h := h.1 c1
    exact xe_throw1 (text := "from or to is out of range") (is := 235) hx hb hl9 hout hlocks hbase hh hX hS hown q2 q3 hW1 (List.mem_of_getElem? (i := 8) rfl) (hl.1.trans hml.symm) dX5_needWindow_26 dX5_needWindow_29 dX5_needWindow_30 dX5_needWindow_32 dX5_needWindow_35 (Nat.le_of_ble_eq_true rfl) (Nat.le_of_ble_eq_true rfl) (Nat.le_of_ble_eq_true rfl) (Nat.le_of_ble_eq_true rfl) h (Nat.le_of_ble_eq_true rfl) (Nat.le_of_ble_eq_true rfl)
  · replace h := h.2 c1
    refine lv_iload_n hx hb dX5_needWindow_4 rfl (lv_at hl 1 rfl) ?_
    refine lv_iload_n hx hb dX5_needWindow_5 rfl (lv_at hl 0 rfl) ?_
    refine lv_icmp_lt (tgt := 26) hx hb dX5_needWindow_6 (by decide) (fun c2 => ?_) (fun c2 => ?_)
    · replace h := h.1 c2
      exact xe_throw1 (text := "from or to is out of range") (is := 235) hx hb hl9 hout hlocks hbase hh hX hS hown q2 q3 hW1 (List.mem_of_getElem? (i := 8) rfl) (hl.1.trans hml.symm) dX5_needWindow_26 dX5_needWindow_29 dX5_needWindow_30 dX5_needWindow_32 dX5_needWindow_35 (Nat.le_of_ble_eq_true rfl) (Nat.le_of_ble_eq_true rfl) (Nat.le_of_ble_eq_true rfl) (Nat.le_of_ble_eq_true rfl) h (Nat.le_of_ble_eq_true rfl) (Nat.le_of_ble_eq_true rfl)
    · replace h := h.2 c2
      refine lv_iload_n hx hb dX5_needWindow_9 rfl (lv_at hl 2 rfl) ?_
      refine lv_iconst (v := 1) hx hb dX5_needWindow_10 (by decide) ?_
      refine lv_icmp_lt (tgt := 26) hx hb dX5_needWindow_11 (by decide) (fun c3 => ?_) (fun c3 => ?_)
      · replace h := h.1 c3
        exact xe_throw1 (text := "from or to is out of range") (is := 235) hx hb hl9 hout hlocks hbase hh hX hS hown q2 q3 hW1 (List.mem_of_getElem? (i := 8) rfl) (hl.1.trans hml.symm) dX5_needWindow_26 dX5_needWindow_29 dX5_needWindow_30 dX5_needWindow_32 dX5_needWindow_35 (Nat.le_of_ble_eq_true rfl) (Nat.le_of_ble_eq_true rfl) (Nat.le_of_ble_eq_true rfl) (Nat.le_of_ble_eq_true rfl) h (Nat.le_of_ble_eq_true rfl) (Nat.le_of_ble_eq_true rfl)
      · replace h := h.2 c3
        refine lv_iload_n hx hb dX5_needWindow_14 rfl (lv_at hl 0 rfl) ?_
        refine lv_iload_n hx hb dX5_needWindow_15 rfl (lv_at hl 2 rfl) ?_
        obtain ⟨g4, h⟩ := h
        refine lv_irem hx hb dX5_needWindow_16 g4 ?_
        refine lv_if_ne (tgt := 26) hx hb dX5_needWindow_17 (by decide) (fun c5 => ?_) (fun c5 => ?_)
        · replace h := h.1 c5
          exact xe_throw1 (text := "from or to is out of range") (is := 235) hx hb hl9 hout hlocks hbase hh hX hS hown q2 q3 hW1 (List.mem_of_getElem? (i := 8) rfl) (hl.1.trans hml.symm) dX5_needWindow_26 dX5_needWindow_29 dX5_needWindow_30 dX5_needWindow_32 dX5_needWindow_35 (Nat.le_of_ble_eq_true rfl) (Nat.le_of_ble_eq_true rfl) (Nat.le_of_ble_eq_true rfl) (Nat.le_of_ble_eq_true rfl) h (Nat.le_of_ble_eq_true rfl) (Nat.le_of_ble_eq_true rfl)
        · replace h := h.2 c5
          refine lv_iload_n hx hb dX5_needWindow_20 rfl (lv_at hl 1 rfl) ?_
          refine lv_iload_n hx hb dX5_needWindow_21 rfl (lv_at hl 2 rfl) ?_
          obtain ⟨g6, h⟩ := h
          refine lv_irem hx hb dX5_needWindow_22 g6 ?_
          refine lv_if_eq (tgt := 36) hx hb dX5_needWindow_23 (by decide) (fun c7 => ?_) (fun c7 => ?_)
          · replace h := h.1 c7
            exact vx_ret (xe_v hx hb hr hlocks hbase hh hK hX hS h (Nat.le_of_ble_eq_true rfl) (Nat.le_of_ble_eq_true rfl) dX5_needWindow_36)
          · replace h := h.2 c7
            exact xe_throw1 (text := "from or to is out of range") (is := 235) hx hb hl9 hout hlocks hbase hh hX hS hown q2 q3 hW1 (List.mem_of_getElem? (i := 8) rfl) (hl.1.trans hml.symm) dX5_needWindow_26 dX5_needWindow_29 dX5_needWindow_30 dX5_needWindow_32 dX5_needWindow_35 (Nat.le_of_ble_eq_true rfl) (Nat.le_of_ble_eq_true rfl) (Nat.le_of_ble_eq_true rfl) (Nat.le_of_ble_eq_true rfl) h (Nat.le_of_ble_eq_true rfl) (Nat.le_of_ble_eq_true rfl)

set_option maxHeartbeats 4000000 in
set_option maxRecDepth 100000 in
theorem mtq_X5_needWindow (l : Launch) (G : GG) (base : Nat) {p1 : Int32} {p2 : Int32} {p3 : Int32} {m0 : MM} {Q : MM → Prop} (h : wp_X5_needWindow p1 p2 p3 m0 Q (fun _ _ => False)) : Met l yX5_needWindow wsX5_needWindow ({ frames := 6, cells := 0, slots := 0, locals := 96 }) (va_Pc [.int p1, .int p2, .int p3] (SP G base m0)) (va_Qv Q (HB G base) (xA base)) 0 0 (xA base) := by
  refine Met.ofW (cc := cX5_needWindow) (maxL := 3) (ret := none) (by decide) rfl ?_
  intro p e s m args below meth c s₁ B hml hv
  obtain ⟨rfl, hbase, hh, hK, hX⟩ := hv
  have C0 : BC p s m _ meth c G base RX5 cX5_needWindow 3 none wsX5_needWindow := ⟨B.exec, B.bytes, B.returns, hml, findClass_of_methodNamed B.named, atoms_spec (ws := wsX5_needWindow) B.pre, B.notSynchronized, hK, hbase, hX⟩
  obtain ⟨hx, hb, hr, -, hown, hts, hlocks, -, -, -⟩ := id C0
  have hS : va_S (xA base) s.heap s.heap [] := va_S.rf
  have hl := lv_entry ([.int p1, .int p2, .int p3]) (n := 3) (Nat.le_of_ble_eq_true rfl)
  rw [lg_entry_eq]
  generalize (lg_sl ([.int p1, .int p2, .int p3]) ++ List.replicate (3 - (lg_sl ([.int p1, .int p2, .int p3])).length) Slot.unset).toArray = ls at hl ⊢
  have hl : lv_has ls 3 [(0, .int p1), (1, .int p2), (2, .int p3)] := hl
  unfold wp_X5_needWindow at h
  refine lv_iload_n hx hb dX5_needWindow_0 rfl (lv_at hl 0 rfl) ?_
  refine lv_if_lt (tgt := 26) hx hb dX5_needWindow_1 (by decide) (fun c1 => ?_) (fun c1 => ?_)
  · replace h := h.1 c1
    exact h.elim
  · replace h := h.2 c1
    refine lv_iload_n hx hb dX5_needWindow_4 rfl (lv_at hl 1 rfl) ?_
    refine lv_iload_n hx hb dX5_needWindow_5 rfl (lv_at hl 0 rfl) ?_
    refine lv_icmp_lt (tgt := 26) hx hb dX5_needWindow_6 (by decide) (fun c2 => ?_) (fun c2 => ?_)
    · replace h := h.1 c2
      exact h.elim
    · replace h := h.2 c2
      refine lv_iload_n hx hb dX5_needWindow_9 rfl (lv_at hl 2 rfl) ?_
      refine lv_iconst (v := 1) hx hb dX5_needWindow_10 (by decide) ?_
      refine lv_icmp_lt (tgt := 26) hx hb dX5_needWindow_11 (by decide) (fun c3 => ?_) (fun c3 => ?_)
      · replace h := h.1 c3
        exact h.elim
      · replace h := h.2 c3
        refine lv_iload_n hx hb dX5_needWindow_14 rfl (lv_at hl 0 rfl) ?_
        refine lv_iload_n hx hb dX5_needWindow_15 rfl (lv_at hl 2 rfl) ?_
        obtain ⟨g4, h⟩ := h
        refine lv_irem hx hb dX5_needWindow_16 g4 ?_
        refine lv_if_ne (tgt := 26) hx hb dX5_needWindow_17 (by decide) (fun c5 => ?_) (fun c5 => ?_)
        · replace h := h.1 c5
          exact h.elim
        · replace h := h.2 c5
          refine lv_iload_n hx hb dX5_needWindow_20 rfl (lv_at hl 1 rfl) ?_
          refine lv_iload_n hx hb dX5_needWindow_21 rfl (lv_at hl 2 rfl) ?_
          obtain ⟨g6, h⟩ := h
          refine lv_irem hx hb dX5_needWindow_22 g6 ?_
          refine lv_if_eq (tgt := 36) hx hb dX5_needWindow_23 (by decide) (fun c7 => ?_) (fun c7 => ?_)
          · replace h := h.1 c7
            exact (xe_v hx hb hr hlocks hbase hh hK hX hS h (Nat.le_of_ble_eq_true rfl) (Nat.le_of_ble_eq_true rfl) dX5_needWindow_36)
          · replace h := h.2 c7
            exact h.elim

set_option maxHeartbeats 4000000 in
set_option maxRecDepth 100000 in
theorem mt_X5_gaps (l : Launch) (hl9 : l.stackTraces = false) (G : GG) (base : Nat) {a0 : Nat} {p1 : Int32} {p2 : Int32} {p3 : Int32} {p4 : Int32} {m0 : MM} {Q : Int32 → MM → Prop} {X : Nat → MM → Prop} (h : wp_X5_gaps a0 p1 p2 p3 p4 m0 Q X) : vx_Met l yX5_gaps wsX5_gaps ({ frames := 8, cells := 4, slots := 24, locals := 142 }) (va_Pc [.ref a0, .int p1, .int p2, .int p3, .int p4] (SP G base m0)) (va_Qi Q (HB G base) (xA base)) (xX G base X) 4 24 (xA base) := by
  refine vx_ofW (cc := cX5_gaps) (maxL := 8) (ret := (some .int)) (by decide) rfl ?_
  intro p e s m args below meth c s₁ B hml hout hv
  obtain ⟨rfl, hbase, hh, hK, hX⟩ := hv
  have C0 : BC p s m _ meth c G base RX5 cX5_gaps 8 (some .int) wsX5_gaps := ⟨B.exec, B.bytes, B.returns, hml, findClass_of_methodNamed B.named, atoms_spec (ws := wsX5_gaps) B.pre, B.notSynchronized, hK, hbase, hX⟩
  obtain ⟨hx, hb, hr, -, hown, hts, hlocks, -, -, -⟩ := id C0
  have hS : va_S (xA base) s.heap s.heap [] := va_S.rf
  have hl := lv_entry ([.ref a0, .int p1, .int p2, .int p3, .int p4]) (n := 8) (Nat.le_of_ble_eq_true rfl)
  rw [lg_entry_eq]
  generalize (lg_sl ([.ref a0, .int p1, .int p2, .int p3, .int p4]) ++ List.replicate (8 - (lg_sl ([.ref a0, .int p1, .int p2, .int p3, .int p4])).length) Slot.unset).toArray = ls at hl ⊢
  have hl : lv_has ls 8 [(0, .ref a0), (1, .int p1), (2, .int p2), (3, .int p3), (4, .int p4)] := hl
  unfold wp_X5_gaps at h
  have hL5 : ∀ w ∈ u_ws RX5 TX5 7, w.before _ s = true := fun w h9 => hts w (List.mem_cons_of_mem _ (List.mem_append_left _ (List.mem_append_left _ (List.mem_append_left _ (List.mem_append_left _ (List.mem_append_left _ (List.mem_append_right _ (h9))))))))
  have q2 : (Cond.fieldLink RX5 22 "RollupStore" "horizon" "[I").before _ s = true := hts _ (List.mem_cons_of_mem _ (List.mem_append_left _ (List.mem_append_left _ (List.mem_append_left _ (List.mem_append_left _ (List.mem_append_left _ (List.mem_append_left _ (List.mem_append_left _ (List.mem_of_getElem? (i := 0) rfl)))))))))
  have q3 : (Cond.methodLink RX5 157 Lib.Math.max.name).before _ s = true := hts _ (List.mem_cons_of_mem _ (List.mem_append_left _ (List.mem_append_left _ (List.mem_append_left _ (List.mem_append_left _ (List.mem_append_left _ (List.mem_append_left _ (List.mem_append_left _ (List.mem_of_getElem? (i := 1) rfl)))))))))
  have q4 : (Cond.static Lib.Math.max.name).before _ s = true := hts _ (List.mem_cons_of_mem _ (List.mem_append_left _ (List.mem_append_left _ (List.mem_append_left _ (List.mem_append_left _ (List.mem_append_left _ (List.mem_append_left _ (List.mem_append_left _ (List.mem_of_getElem? (i := 2) rfl)))))))))
  have q5 : (Cond.initialized "java/lang/Math").before _ s = true := hts _ (List.mem_cons_of_mem _ (List.mem_append_left _ (List.mem_append_left _ (List.mem_append_left _ (List.mem_append_left _ (List.mem_append_left _ (List.mem_append_left _ (List.mem_append_left _ (List.mem_of_getElem? (i := 3) rfl)))))))))
  have q6 : (Cond.code Lib.Math.max.name Lib.Math.max.code 2 (some .int)).before _ s = true := hts _ (List.mem_cons_of_mem _ (List.mem_append_left _ (List.mem_append_left _ (List.mem_append_left _ (List.mem_append_left _ (List.mem_append_left _ (List.mem_append_left _ (List.mem_append_left _ (List.mem_of_getElem? (i := 4) rfl)))))))))
  refine lv_aload_n hx hb dX5_gaps_0 rfl (lv_at hl 0 rfl) ?_
  refine lv_iload_n hx hb dX5_gaps_1 rfl (lv_at hl 1 rfl) ?_
  refine lv_iload_n hx hb dX5_gaps_2 rfl (lv_at hl 2 rfl) ?_
  refine lv_iconst (v := 0) hx hb dX5_gaps_3 (by decide) ?_
  obtain ⟨g1, h⟩ := h
  refine xt_q (vx_runV (As := [.int p1, .int p2, .int (0 : Int32)]) (rest := []) ⟨hx, hb, hml, hown, hts⟩ (mt_X5_rollupsAt l hl9 G base h) (cwV 3 hts gX5_gaps_X5_rollupsAt rfl rfl rfl (by decide +kernel) ⟨Nat.le_of_ble_eq_true rfl, Nat.le_of_ble_eq_true rfl⟩) (xp_V hbase hh hK hX hS (ci := 5) g1 (by decide) rfl) rfl rfl hl.1 rfl (lv_room (Nat.le_of_ble_eq_true rfl)) dX5_gaps_4 ⟨Nat.le_of_ble_eq_true rfl, Nat.le_of_ble_eq_true rfl⟩) hS (fun k9 m9 H locs q9 ce h hh hS hc9 hv9 hcl9 => xe_out hout hlocks hbase hh hK hX hS h hc9 hv9 hcl9 (Nat.le_of_ble_eq_true rfl) (Nat.le_of_ble_eq_true rfl)) (fun r2 m3 H locs h hh hS => ?_)
  obtain ⟨b4, eb4, h⟩ := h
  rw [eb4]
  refine W.eq (g2 := F0 m 7 ls [.ref b4]) rfl ?_
  refine lv_astore (lv' := [(5, .ref b4), (0, .ref a0), (1, .int p1), (2, .int p2), (3, .int p3), (4, .int p4)]) hx hb dX5_gaps_7 hl (by decide) rfl (fun ls hl => ?_)
  refine lv_iload_n hx hb dX5_gaps_9 rfl (lv_at hl 4 rfl) ?_
  refine lv_iload hx hb dX5_gaps_10 (lv_at hl 5 rfl) ?_
  refine lv_iload_n hx hb dX5_gaps_12 rfl (lv_at hl 3 rfl) ?_
  refine xc_i (va_runS (As := [.int p2]) (rest := [.int p4, .int p3]) ⟨hx, hb, hml, hown, hts⟩ (mt_X5_lengthOf l G base h) (va_cwS 1 hts gX5_gaps_X5_lengthOf rfl rfl rfl (by decide +kernel) ⟨Nat.le_of_ble_eq_true rfl, Nat.le_of_ble_eq_true rfl⟩) (xp_S hbase hh hK hX hS) rfl rfl hl.1 rfl (lv_room (Nat.le_of_ble_eq_true rfl)) dX5_gaps_13 ⟨Nat.le_of_ble_eq_true rfl, Nat.le_of_ble_eq_true rfl⟩) hS (fun r5 m6 H locs h hh hS => ?_)
  refine xt_v (vx_runS (As := [.int p3, .int p4, .int r5]) (rest := []) ⟨hx, hb, hml, hown, hts⟩ (mt_X5_needWindow l hl9 G base h) (va_cwS 3 hts gX5_gaps_X5_needWindow rfl rfl rfl (by decide +kernel) ⟨Nat.le_of_ble_eq_true rfl, Nat.le_of_ble_eq_true rfl⟩) (xp_S hbase hh hK hX hS) rfl rfl hl.1 rfl (lv_room (Nat.le_of_ble_eq_true rfl)) dX5_gaps_16 ⟨Nat.le_of_ble_eq_true rfl, Nat.le_of_ble_eq_true rfl⟩) hS (fun k9 m9 H locs q9 ce h hh hS hc9 hv9 hcl9 => xe_out hout hlocks hbase hh hK hX hS h hc9 hv9 hcl9 (Nat.le_of_ble_eq_true rfl) (Nat.le_of_ble_eq_true rfl)) (fun m8 H locs h hh hS => ?_)
  refine lv_iload_n hx hb dX5_gaps_19 rfl (lv_at hl 4 rfl) ?_
  refine lv_iload_n hx hb dX5_gaps_20 rfl (lv_at hl 3 rfl) ?_
  refine lv_aload_n hx hb dX5_gaps_21 rfl (lv_at hl 1 rfl) ?_
  obtain ⟨g9, h⟩ := h
  obtain ⟨b10, eb10, h⟩ := h
  refine xr_getR (ci := 5) (C := RX5) (T := TX5) (N := 7) hx hb hL5 hown hK hh g9 (by decide) rfl 4 104 rfl rfl (by decide) (by decide) q2 (fun _ h9 => h9) eb10 dX5_gaps_22 ?_
  refine lv_iload_n hx hb dX5_gaps_25 rfl (lv_at hl 3 rfl) ?_
  obtain ⟨g11, h⟩ := h
  obtain ⟨g12, h⟩ := h
  refine xr_iald hx hb hK hh g11 g12 dX5_gaps_26 ?_
  refine xc_i (va_runS (As := [.int p2, .int (mAI m8 b10 p2.toNatClampNeg)]) (rest := [.int p3]) ⟨hx, hb, hml, hown, hts⟩ (mt_X5_beginOf l G base h) (va_cwS 2 hts gX5_gaps_X5_beginOf rfl rfl rfl (by decide +kernel) ⟨Nat.le_of_ble_eq_true rfl, Nat.le_of_ble_eq_true rfl⟩) (xp_S hbase hh hK hX hS) rfl rfl hl.1 rfl (lv_room (Nat.le_of_ble_eq_true rfl)) dX5_gaps_27 ⟨Nat.le_of_ble_eq_true rfl, Nat.le_of_ble_eq_true rfl⟩) hS (fun r13 m14 H locs h hh hS => ?_)
  refine va_mmax hx hb (hml.trans hl.1.symm) hown q3 q4 q5 q6 (Nat.le_of_ble_eq_true rfl) (Nat.le_of_ble_eq_true rfl) (Nat.le_of_ble_eq_true rfl) (Nat.le_of_ble_eq_true rfl) dX5_gaps_30 ?_
  refine lv_topi (fun x15 ex15 => ?_)
  replace h := h x15 ex15
  refine lv_istore (lv' := [(6, .int x15), (5, .ref b4), (0, .ref a0), (1, .int p1), (2, .int p2), (3, .int p3), (4, .int p4)]) hx hb dX5_gaps_33 hl (by decide) rfl (fun ls hl => ?_)
  refine lv_iload hx hb dX5_gaps_35 (lv_at hl 0 rfl) ?_
  refine lv_iload hx hb dX5_gaps_37 (lv_at hl 6 rfl) ?_
  refine lv_icmp_lt (tgt := 44) hx hb dX5_gaps_39 (by decide) (fun c16 => ?_) (fun c16 => ?_)
  · replace h := h.1 c16
    refine lv_iload hx hb dX5_gaps_44 (lv_at hl 6 rfl) ?_
    refine lv_iload hx hb dX5_gaps_46 (lv_at hl 0 rfl) ?_
    refine lv_isub hx hb dX5_gaps_48 ?_
    refine lv_iload_n hx hb dX5_gaps_49 rfl (lv_at hl 4 rfl) ?_
    refine xc_i (va_runS (As := [.int p2]) (rest := [.int (p4 - x15)]) ⟨hx, hb, hml, hown, hts⟩ (mt_X5_lengthOf l G base h) (va_cwS 1 hts gX5_gaps_X5_lengthOf rfl rfl rfl (by decide +kernel) ⟨Nat.le_of_ble_eq_true rfl, Nat.le_of_ble_eq_true rfl⟩) (xp_S hbase hh hK hX hS) rfl rfl hl.1 rfl (lv_room (Nat.le_of_ble_eq_true rfl)) dX5_gaps_50 ⟨Nat.le_of_ble_eq_true rfl, Nat.le_of_ble_eq_true rfl⟩) hS (fun r17 m18 H locs h hh hS => ?_)
    obtain ⟨g19, h⟩ := h
    refine lv_idiv hx hb dX5_gaps_53 g19 ?_
    refine lv_topi (fun x20 ex20 => ?_)
    replace h := h x20 ex20
    refine lv_istore (lv' := [(7, .int x20), (6, .int x15), (5, .ref b4), (0, .ref a0), (1, .int p1), (2, .int p2), (3, .int p3), (4, .int p4)]) hx hb dX5_gaps_54 hl (by decide) rfl (fun ls hl => ?_)
    refine lv_iload hx hb dX5_gaps_56 (lv_at hl 0 rfl) ?_
    refine lv_aload hx hb dX5_gaps_58 (lv_at hl 2 rfl) ?_
    refine lv_iload hx hb dX5_gaps_60 (lv_at hl 7 rfl) ?_
    obtain ⟨g21, h⟩ := h
    refine xc_i (va_runV (As := [.int p4]) (rest := [.int x20]) ⟨hx, hb, hml, hown, hts⟩ (mt_X2_placeFrom l G base h) (cwV 1 hts gX5_gaps_X2_placeFrom rfl rfl rfl (by decide +kernel) ⟨Nat.le_of_ble_eq_true rfl, Nat.le_of_ble_eq_true rfl⟩) (xp_V hbase hh hK hX hS (ci := 2) g21 (by decide) rfl) rfl rfl hl.1 rfl (lv_room (Nat.le_of_ble_eq_true rfl)) dX5_gaps_62 ⟨Nat.le_of_ble_eq_true rfl, Nat.le_of_ble_eq_true rfl⟩) hS (fun r22 m23 H locs h hh hS => ?_)
    refine lv_aload hx hb dX5_gaps_65 (lv_at hl 2 rfl) ?_
    refine lv_iload hx hb dX5_gaps_67 (lv_at hl 1 rfl) ?_
    obtain ⟨g24, h⟩ := h
    refine xc_i (va_runV (As := [.int x15]) (rest := [.int r22, .int x20]) ⟨hx, hb, hml, hown, hts⟩ (mt_X2_placeFrom l G base h) (cwV 1 hts gX5_gaps_X2_placeFrom rfl rfl rfl (by decide +kernel) ⟨Nat.le_of_ble_eq_true rfl, Nat.le_of_ble_eq_true rfl⟩) (xp_V hbase hh hK hX hS (ci := 2) g24 (by decide) rfl) rfl rfl hl.1 rfl (lv_room (Nat.le_of_ble_eq_true rfl)) dX5_gaps_69 ⟨Nat.le_of_ble_eq_true rfl, Nat.le_of_ble_eq_true rfl⟩) hS (fun r25 m26 H locs h hh hS => ?_)
    refine lv_isub hx hb dX5_gaps_72 ?_
    refine lv_isub hx hb dX5_gaps_73 ?_
    exact vx_ret (xe_i hx hb hr hlocks hbase hh hK hX hS h (Nat.le_of_ble_eq_true rfl) (Nat.le_of_ble_eq_true rfl) dX5_gaps_74)
  · replace h := h.2 c16
    refine lv_iconst (v := 0) hx hb dX5_gaps_42 (by decide) ?_
    exact vx_ret (xe_i hx hb hr hlocks hbase hh hK hX hS h (Nat.le_of_ble_eq_true rfl) (Nat.le_of_ble_eq_true rfl) dX5_gaps_43)

set_option maxHeartbeats 4000000 in
set_option maxRecDepth 100000 in
theorem mtq_X5_gaps (l : Launch) (G : GG) (base : Nat) {a0 : Nat} {p1 : Int32} {p2 : Int32} {p3 : Int32} {p4 : Int32} {m0 : MM} {Q : Int32 → MM → Prop} (h : wp_X5_gaps a0 p1 p2 p3 p4 m0 Q (fun _ _ => False)) : Met l yX5_gaps wsX5_gaps ({ frames := 8, cells := 0, slots := 0, locals := 142 }) (va_Pc [.ref a0, .int p1, .int p2, .int p3, .int p4] (SP G base m0)) (va_Qi Q (HB G base) (xA base)) 0 0 (xA base) := by
  refine Met.ofW (cc := cX5_gaps) (maxL := 8) (ret := (some .int)) (by decide) rfl ?_
  intro p e s m args below meth c s₁ B hml hv
  obtain ⟨rfl, hbase, hh, hK, hX⟩ := hv
  have C0 : BC p s m _ meth c G base RX5 cX5_gaps 8 (some .int) wsX5_gaps := ⟨B.exec, B.bytes, B.returns, hml, findClass_of_methodNamed B.named, atoms_spec (ws := wsX5_gaps) B.pre, B.notSynchronized, hK, hbase, hX⟩
  obtain ⟨hx, hb, hr, -, hown, hts, hlocks, -, -, -⟩ := id C0
  have hS : va_S (xA base) s.heap s.heap [] := va_S.rf
  have hl := lv_entry ([.ref a0, .int p1, .int p2, .int p3, .int p4]) (n := 8) (Nat.le_of_ble_eq_true rfl)
  rw [lg_entry_eq]
  generalize (lg_sl ([.ref a0, .int p1, .int p2, .int p3, .int p4]) ++ List.replicate (8 - (lg_sl ([.ref a0, .int p1, .int p2, .int p3, .int p4])).length) Slot.unset).toArray = ls at hl ⊢
  have hl : lv_has ls 8 [(0, .ref a0), (1, .int p1), (2, .int p2), (3, .int p3), (4, .int p4)] := hl
  unfold wp_X5_gaps at h
  have hL5 : ∀ w ∈ u_ws RX5 TX5 7, w.before _ s = true := fun w h9 => hts w (List.mem_cons_of_mem _ (List.mem_append_left _ (List.mem_append_left _ (List.mem_append_left _ (List.mem_append_left _ (List.mem_append_left _ (List.mem_append_right _ (h9))))))))
  have q2 : (Cond.fieldLink RX5 22 "RollupStore" "horizon" "[I").before _ s = true := hts _ (List.mem_cons_of_mem _ (List.mem_append_left _ (List.mem_append_left _ (List.mem_append_left _ (List.mem_append_left _ (List.mem_append_left _ (List.mem_append_left _ (List.mem_append_left _ (List.mem_of_getElem? (i := 0) rfl)))))))))
  have q3 : (Cond.methodLink RX5 157 Lib.Math.max.name).before _ s = true := hts _ (List.mem_cons_of_mem _ (List.mem_append_left _ (List.mem_append_left _ (List.mem_append_left _ (List.mem_append_left _ (List.mem_append_left _ (List.mem_append_left _ (List.mem_append_left _ (List.mem_of_getElem? (i := 1) rfl)))))))))
  have q4 : (Cond.static Lib.Math.max.name).before _ s = true := hts _ (List.mem_cons_of_mem _ (List.mem_append_left _ (List.mem_append_left _ (List.mem_append_left _ (List.mem_append_left _ (List.mem_append_left _ (List.mem_append_left _ (List.mem_append_left _ (List.mem_of_getElem? (i := 2) rfl)))))))))
  have q5 : (Cond.initialized "java/lang/Math").before _ s = true := hts _ (List.mem_cons_of_mem _ (List.mem_append_left _ (List.mem_append_left _ (List.mem_append_left _ (List.mem_append_left _ (List.mem_append_left _ (List.mem_append_left _ (List.mem_append_left _ (List.mem_of_getElem? (i := 3) rfl)))))))))
  have q6 : (Cond.code Lib.Math.max.name Lib.Math.max.code 2 (some .int)).before _ s = true := hts _ (List.mem_cons_of_mem _ (List.mem_append_left _ (List.mem_append_left _ (List.mem_append_left _ (List.mem_append_left _ (List.mem_append_left _ (List.mem_append_left _ (List.mem_append_left _ (List.mem_of_getElem? (i := 4) rfl)))))))))
  refine lv_aload_n hx hb dX5_gaps_0 rfl (lv_at hl 0 rfl) ?_
  refine lv_iload_n hx hb dX5_gaps_1 rfl (lv_at hl 1 rfl) ?_
  refine lv_iload_n hx hb dX5_gaps_2 rfl (lv_at hl 2 rfl) ?_
  refine lv_iconst (v := 0) hx hb dX5_gaps_3 (by decide) ?_
  obtain ⟨g1, h⟩ := h
  refine xc_q (va_runV (As := [.int p1, .int p2, .int (0 : Int32)]) (rest := []) ⟨hx, hb, hml, hown, hts⟩ (mtq_X5_rollupsAt l G base h) (cwV 3 hts gX5_gaps_X5_rollupsAt rfl rfl rfl (by decide +kernel) ⟨Nat.le_of_ble_eq_true rfl, Nat.le_of_ble_eq_true rfl⟩) (xp_V hbase hh hK hX hS (ci := 5) g1 (by decide) rfl) rfl rfl hl.1 rfl (lv_room (Nat.le_of_ble_eq_true rfl)) dX5_gaps_4 ⟨Nat.le_of_ble_eq_true rfl, Nat.le_of_ble_eq_true rfl⟩) hS (fun r2 m3 H locs h hh hS => ?_)
  obtain ⟨b4, eb4, h⟩ := h
  rw [eb4]
  refine W.eq (g2 := F0 m 7 ls [.ref b4]) rfl ?_
  refine lv_astore (lv' := [(5, .ref b4), (0, .ref a0), (1, .int p1), (2, .int p2), (3, .int p3), (4, .int p4)]) hx hb dX5_gaps_7 hl (by decide) rfl (fun ls hl => ?_)
  refine lv_iload_n hx hb dX5_gaps_9 rfl (lv_at hl 4 rfl) ?_
  refine lv_iload hx hb dX5_gaps_10 (lv_at hl 5 rfl) ?_
  refine lv_iload_n hx hb dX5_gaps_12 rfl (lv_at hl 3 rfl) ?_
  refine xc_i (va_runS (As := [.int p2]) (rest := [.int p4, .int p3]) ⟨hx, hb, hml, hown, hts⟩ (mt_X5_lengthOf l G base h) (va_cwS 1 hts gX5_gaps_X5_lengthOf rfl rfl rfl (by decide +kernel) ⟨Nat.le_of_ble_eq_true rfl, Nat.le_of_ble_eq_true rfl⟩) (xp_S hbase hh hK hX hS) rfl rfl hl.1 rfl (lv_room (Nat.le_of_ble_eq_true rfl)) dX5_gaps_13 ⟨Nat.le_of_ble_eq_true rfl, Nat.le_of_ble_eq_true rfl⟩) hS (fun r5 m6 H locs h hh hS => ?_)
  refine xc_v (va_runS (As := [.int p3, .int p4, .int r5]) (rest := []) ⟨hx, hb, hml, hown, hts⟩ (mtq_X5_needWindow l G base h) (va_cwS 3 hts gX5_gaps_X5_needWindow rfl rfl rfl (by decide +kernel) ⟨Nat.le_of_ble_eq_true rfl, Nat.le_of_ble_eq_true rfl⟩) (xp_S hbase hh hK hX hS) rfl rfl hl.1 rfl (lv_room (Nat.le_of_ble_eq_true rfl)) dX5_gaps_16 ⟨Nat.le_of_ble_eq_true rfl, Nat.le_of_ble_eq_true rfl⟩) hS (fun m8 H locs h hh hS => ?_)
  refine lv_iload_n hx hb dX5_gaps_19 rfl (lv_at hl 4 rfl) ?_
  refine lv_iload_n hx hb dX5_gaps_20 rfl (lv_at hl 3 rfl) ?_
  refine lv_aload_n hx hb dX5_gaps_21 rfl (lv_at hl 1 rfl) ?_
  obtain ⟨g9, h⟩ := h
  obtain ⟨b10, eb10, h⟩ := h
  refine xr_getR (ci := 5) (C := RX5) (T := TX5) (N := 7) hx hb hL5 hown hK hh g9 (by decide) rfl 4 104 rfl rfl (by decide) (by decide) q2 (fun _ h9 => h9) eb10 dX5_gaps_22 ?_
  refine lv_iload_n hx hb dX5_gaps_25 rfl (lv_at hl 3 rfl) ?_
  obtain ⟨g11, h⟩ := h
  obtain ⟨g12, h⟩ := h
  refine xr_iald hx hb hK hh g11 g12 dX5_gaps_26 ?_
  refine xc_i (va_runS (As := [.int p2, .int (mAI m8 b10 p2.toNatClampNeg)]) (rest := [.int p3]) ⟨hx, hb, hml, hown, hts⟩ (mt_X5_beginOf l G base h) (va_cwS 2 hts gX5_gaps_X5_beginOf rfl rfl rfl (by decide +kernel) ⟨Nat.le_of_ble_eq_true rfl, Nat.le_of_ble_eq_true rfl⟩) (xp_S hbase hh hK hX hS) rfl rfl hl.1 rfl (lv_room (Nat.le_of_ble_eq_true rfl)) dX5_gaps_27 ⟨Nat.le_of_ble_eq_true rfl, Nat.le_of_ble_eq_true rfl⟩) hS (fun r13 m14 H locs h hh hS => ?_)
  refine va_mmax hx hb (hml.trans hl.1.symm) hown q3 q4 q5 q6 (Nat.le_of_ble_eq_true rfl) (Nat.le_of_ble_eq_true rfl) (Nat.le_of_ble_eq_true rfl) (Nat.le_of_ble_eq_true rfl) dX5_gaps_30 ?_
  refine lv_topi (fun x15 ex15 => ?_)
  replace h := h x15 ex15
  refine lv_istore (lv' := [(6, .int x15), (5, .ref b4), (0, .ref a0), (1, .int p1), (2, .int p2), (3, .int p3), (4, .int p4)]) hx hb dX5_gaps_33 hl (by decide) rfl (fun ls hl => ?_)
  refine lv_iload hx hb dX5_gaps_35 (lv_at hl 0 rfl) ?_
  refine lv_iload hx hb dX5_gaps_37 (lv_at hl 6 rfl) ?_
  refine lv_icmp_lt (tgt := 44) hx hb dX5_gaps_39 (by decide) (fun c16 => ?_) (fun c16 => ?_)
  · replace h := h.1 c16
    refine lv_iload hx hb dX5_gaps_44 (lv_at hl 6 rfl) ?_
    refine lv_iload hx hb dX5_gaps_46 (lv_at hl 0 rfl) ?_
    refine lv_isub hx hb dX5_gaps_48 ?_
    refine lv_iload_n hx hb dX5_gaps_49 rfl (lv_at hl 4 rfl) ?_
    refine xc_i (va_runS (As := [.int p2]) (rest := [.int (p4 - x15)]) ⟨hx, hb, hml, hown, hts⟩ (mt_X5_lengthOf l G base h) (va_cwS 1 hts gX5_gaps_X5_lengthOf rfl rfl rfl (by decide +kernel) ⟨Nat.le_of_ble_eq_true rfl, Nat.le_of_ble_eq_true rfl⟩) (xp_S hbase hh hK hX hS) rfl rfl hl.1 rfl (lv_room (Nat.le_of_ble_eq_true rfl)) dX5_gaps_50 ⟨Nat.le_of_ble_eq_true rfl, Nat.le_of_ble_eq_true rfl⟩) hS (fun r17 m18 H locs h hh hS => ?_)
    obtain ⟨g19, h⟩ := h
    refine lv_idiv hx hb dX5_gaps_53 g19 ?_
    refine lv_topi (fun x20 ex20 => ?_)
    replace h := h x20 ex20
    refine lv_istore (lv' := [(7, .int x20), (6, .int x15), (5, .ref b4), (0, .ref a0), (1, .int p1), (2, .int p2), (3, .int p3), (4, .int p4)]) hx hb dX5_gaps_54 hl (by decide) rfl (fun ls hl => ?_)
    refine lv_iload hx hb dX5_gaps_56 (lv_at hl 0 rfl) ?_
    refine lv_aload hx hb dX5_gaps_58 (lv_at hl 2 rfl) ?_
    refine lv_iload hx hb dX5_gaps_60 (lv_at hl 7 rfl) ?_
    obtain ⟨g21, h⟩ := h
    refine xc_i (va_runV (As := [.int p4]) (rest := [.int x20]) ⟨hx, hb, hml, hown, hts⟩ (mt_X2_placeFrom l G base h) (cwV 1 hts gX5_gaps_X2_placeFrom rfl rfl rfl (by decide +kernel) ⟨Nat.le_of_ble_eq_true rfl, Nat.le_of_ble_eq_true rfl⟩) (xp_V hbase hh hK hX hS (ci := 2) g21 (by decide) rfl) rfl rfl hl.1 rfl (lv_room (Nat.le_of_ble_eq_true rfl)) dX5_gaps_62 ⟨Nat.le_of_ble_eq_true rfl, Nat.le_of_ble_eq_true rfl⟩) hS (fun r22 m23 H locs h hh hS => ?_)
    refine lv_aload hx hb dX5_gaps_65 (lv_at hl 2 rfl) ?_
    refine lv_iload hx hb dX5_gaps_67 (lv_at hl 1 rfl) ?_
    obtain ⟨g24, h⟩ := h
    refine xc_i (va_runV (As := [.int x15]) (rest := [.int r22, .int x20]) ⟨hx, hb, hml, hown, hts⟩ (mt_X2_placeFrom l G base h) (cwV 1 hts gX5_gaps_X2_placeFrom rfl rfl rfl (by decide +kernel) ⟨Nat.le_of_ble_eq_true rfl, Nat.le_of_ble_eq_true rfl⟩) (xp_V hbase hh hK hX hS (ci := 2) g24 (by decide) rfl) rfl rfl hl.1 rfl (lv_room (Nat.le_of_ble_eq_true rfl)) dX5_gaps_69 ⟨Nat.le_of_ble_eq_true rfl, Nat.le_of_ble_eq_true rfl⟩) hS (fun r25 m26 H locs h hh hS => ?_)
    refine lv_isub hx hb dX5_gaps_72 ?_
    refine lv_isub hx hb dX5_gaps_73 ?_
    exact (xe_i hx hb hr hlocks hbase hh hK hX hS h (Nat.le_of_ble_eq_true rfl) (Nat.le_of_ble_eq_true rfl) dX5_gaps_74)
  · replace h := h.2 c16
    refine lv_iconst (v := 0) hx hb dX5_gaps_42 (by decide) ?_
    exact (xe_i hx hb hr hlocks hbase hh hK hX hS h (Nat.le_of_ble_eq_true rfl) (Nat.le_of_ble_eq_true rfl) dX5_gaps_43)

set_option maxHeartbeats 4000000 in
set_option maxRecDepth 100000 in
theorem mt_X5_valueBetween (l : Launch) (G : GG) (base : Nat) {p1 : Nat} {p2 : Nat} {p3 : Int32} {m0 : MM} {Q : Int32 → MM → Prop} (h : wp_X5_valueBetween p1 p2 p3 m0 Q) : Met l yX5_valueBetween wsX5_valueBetween ({ frames := 1, cells := 0, slots := 0, locals := 70 }) (va_Pc [.ref p1, .ref p2, .int p3] (SP G base m0)) (va_Qi Q (HB G base) (xA base)) 0 0 (xA base) := by
  refine Met.ofW (cc := cX5_valueBetween) (maxL := 7) (ret := (some .int)) (by decide) rfl ?_
  intro p e s m args below meth c s₁ B hml hv
  obtain ⟨rfl, hbase, hh, hK, hX⟩ := hv
  have C0 : BC p s m _ meth c G base RX5 cX5_valueBetween 7 (some .int) wsX5_valueBetween := ⟨B.exec, B.bytes, B.returns, hml, findClass_of_methodNamed B.named, atoms_spec (ws := wsX5_valueBetween) B.pre, B.notSynchronized, hK, hbase, hX⟩
  obtain ⟨hx, hb, hr, -, hown, hts, hlocks, -, -, -⟩ := id C0
  have hS : va_S (xA base) s.heap s.heap [] := va_S.rf
  have hl := lv_entry ([.ref p1, .ref p2, .int p3]) (n := 7) (Nat.le_of_ble_eq_true rfl)
  rw [lg_entry_eq]
  generalize (lg_sl ([.ref p1, .ref p2, .int p3]) ++ List.replicate (7 - (lg_sl ([.ref p1, .ref p2, .int p3])).length) Slot.unset).toArray = ls at hl ⊢
  have hl : lv_has ls 7 [(0, .ref p1), (1, .ref p2), (2, .int p3)] := hl
  unfold wp_X5_valueBetween at h
  have hL1 : ∀ w ∈ u_ws RX1 TX1 8, w.before _ s = true := fun w h9 => hts w (List.mem_cons_of_mem _ (List.mem_append_right _ (h9)))
  have q2 : (Cond.fieldLink RX5 169 "RollupStore$Rollup" "last" "I").before _ s = true := hts _ (List.mem_cons_of_mem _ (List.mem_append_left _ (List.mem_of_getElem? (i := 0) rfl)))
  have q3 : (Cond.fieldLink RX5 140 "RollupStore$Rollup" "begin" "I").before _ s = true := hts _ (List.mem_cons_of_mem _ (List.mem_append_left _ (List.mem_of_getElem? (i := 1) rfl)))
  have q4 : (Cond.methodLink RX5 157 Lib.Math.max.name).before _ s = true := hts _ (List.mem_cons_of_mem _ (List.mem_append_left _ (List.mem_of_getElem? (i := 2) rfl)))
  have q5 : (Cond.static Lib.Math.max.name).before _ s = true := hts _ (List.mem_cons_of_mem _ (List.mem_append_left _ (List.mem_of_getElem? (i := 3) rfl)))
  have q6 : (Cond.initialized "java/lang/Math").before _ s = true := hts _ (List.mem_cons_of_mem _ (List.mem_append_left _ (List.mem_of_getElem? (i := 4) rfl)))
  have q7 : (Cond.code Lib.Math.max.name Lib.Math.max.code 2 (some .int)).before _ s = true := hts _ (List.mem_cons_of_mem _ (List.mem_append_left _ (List.mem_of_getElem? (i := 5) rfl)))
  refine lv_aload_n hx hb dX5_valueBetween_0 rfl (lv_at hl 1 rfl) ?_
  obtain ⟨g1, h⟩ := h
  refine xr_getI (ci := 1) (C := RX1) (T := TX1) (N := 8) hx hb hL1 hown hK hh g1 (by decide) rfl 6 26 rfl rfl (by decide) (by decide) q2 (fun _ h9 => h9) dX5_valueBetween_1 ?_
  refine lv_aload_n hx hb dX5_valueBetween_4 rfl (lv_at hl 0 rfl) ?_
  obtain ⟨g2, h⟩ := h
  refine xr_getI (ci := 1) (C := RX1) (T := TX1) (N := 8) hx hb hL1 hown hK hh g2 (by decide) rfl 6 26 rfl rfl (by decide) (by decide) q2 (fun _ h9 => h9) dX5_valueBetween_5 ?_
  refine lv_isub hx hb dX5_valueBetween_8 ?_
  refine lv_i2l hx hb dX5_valueBetween_9 rfl ?_
  refine lv_topl (fun x3 ex3 => ?_)
  replace h := h x3 ex3
  refine lv_lstore_n (lv' := [(3, .long x3), (0, .ref p1), (1, .ref p2), (2, .int p3)]) hx hb dX5_valueBetween_10 rfl hl (by decide) rfl (fun ls hl => ?_)
  refine lv_iconst (v := 1) hx hb dX5_valueBetween_11 (by decide) ?_
  refine lv_aload_n hx hb dX5_valueBetween_12 rfl (lv_at hl 2 rfl) ?_
  obtain ⟨g4, h⟩ := h
  refine xr_getI (ci := 1) (C := RX1) (T := TX1) (N := 8) hx hb hL1 hown hK hh g4 (by decide) rfl 0 20 rfl rfl (by decide) (by decide) q3 (fun _ h9 => h9) dX5_valueBetween_13 ?_
  refine lv_aload_n hx hb dX5_valueBetween_16 rfl (lv_at hl 1 rfl) ?_
  obtain ⟨g5, h⟩ := h
  refine xr_getI (ci := 1) (C := RX1) (T := TX1) (N := 8) hx hb hL1 hown hK hh g5 (by decide) rfl 0 20 rfl rfl (by decide) (by decide) q3 (fun _ h9 => h9) dX5_valueBetween_17 ?_
  refine lv_isub hx hb dX5_valueBetween_20 ?_
  refine va_mmax hx hb (hml.trans hl.1.symm) hown q4 q5 q6 q7 (Nat.le_of_ble_eq_true rfl) (Nat.le_of_ble_eq_true rfl) (Nat.le_of_ble_eq_true rfl) (Nat.le_of_ble_eq_true rfl) dX5_valueBetween_21 ?_
  refine lv_i2l hx hb dX5_valueBetween_24 rfl ?_
  refine lv_topl (fun x6 ex6 => ?_)
  replace h := h x6 ex6
  refine lv_lstore (lv' := [(5, .long x6), (3, .long x3), (0, .ref p1), (1, .ref p2), (2, .int p3)]) hx hb dX5_valueBetween_25 hl (by decide) rfl (fun ls hl => ?_)
  refine lv_aload_n hx hb dX5_valueBetween_27 rfl (lv_at hl 2 rfl) ?_
  obtain ⟨g7, h⟩ := h
  refine xr_getI (ci := 1) (C := RX1) (T := TX1) (N := 8) hx hb hL1 hown hK hh g7 (by decide) rfl 6 26 rfl rfl (by decide) (by decide) q2 (fun _ h9 => h9) dX5_valueBetween_28 ?_
  refine lv_i2l hx hb dX5_valueBetween_31 rfl ?_
  refine lv_lload_n hx hb dX5_valueBetween_32 rfl (lv_at hl 1 rfl) ?_
  refine lv_iload_n hx hb dX5_valueBetween_33 rfl (lv_at hl 4 rfl) ?_
  refine lv_aload_n hx hb dX5_valueBetween_34 rfl (lv_at hl 2 rfl) ?_
  obtain ⟨g8, h⟩ := h
  refine xr_getI (ci := 1) (C := RX1) (T := TX1) (N := 8) hx hb hL1 hown hK hh g8 (by decide) rfl 0 20 rfl rfl (by decide) (by decide) q3 (fun _ h9 => h9) dX5_valueBetween_35 ?_
  refine lv_isub hx hb dX5_valueBetween_38 ?_
  refine lv_i2l hx hb dX5_valueBetween_39 rfl ?_
  refine lv_lmul hx hb dX5_valueBetween_40 ?_
  refine lv_lload hx hb dX5_valueBetween_41 (lv_at hl 0 rfl) ?_
  obtain ⟨g9, h⟩ := h
  refine lv_ldiv hx hb dX5_valueBetween_43 g9 ?_
  refine lv_ladd hx hb dX5_valueBetween_44 ?_
  refine lv_l2i hx hb dX5_valueBetween_45 rfl ?_
  exact (xe_i hx hb hr hlocks hbase hh hK hX hS h (Nat.le_of_ble_eq_true rfl) (Nat.le_of_ble_eq_true rfl) dX5_valueBetween_46)

set_option maxHeartbeats 4000000 in
set_option maxRecDepth 100000 in
theorem mt_X5_filled (l : Launch) (hl9 : l.stackTraces = false) (G : GG) (base : Nat) {a0 : Nat} {p1 : Int32} {p2 : Int32} {p3 : Int32} {p4 : Int32} {m0 : MM} {Q : Int32 → MM → Prop} {X : Nat → MM → Prop} (h : wp_X5_filled a0 p1 p2 p3 p4 m0 Q X) : vx_Met l yX5_filled wsX5_filled ({ frames := 8, cells := 5, slots := 30, locals := 142 }) (va_Pc [.ref a0, .int p1, .int p2, .int p3, .int p4] (SP G base m0)) (va_Qi Q (HB G base) (xA base)) (xX G base X) 5 30 (xA base) := by
  refine vx_ofW (cc := cX5_filled) (maxL := 10) (ret := (some .int)) (by decide) rfl ?_
  intro p e s m args below meth c s₁ B hml hout hv
  obtain ⟨rfl, hbase, hh, hK, hX⟩ := hv
  have C0 : BC p s m _ meth c G base RX5 cX5_filled 10 (some .int) wsX5_filled := ⟨B.exec, B.bytes, B.returns, hml, findClass_of_methodNamed B.named, atoms_spec (ws := wsX5_filled) B.pre, B.notSynchronized, hK, hbase, hX⟩
  obtain ⟨hx, hb, hr, -, hown, hts, hlocks, -, -, -⟩ := id C0
  have hS : va_S (xA base) s.heap s.heap [] := va_S.rf
  have hl := lv_entry ([.ref a0, .int p1, .int p2, .int p3, .int p4]) (n := 10) (Nat.le_of_ble_eq_true rfl)
  rw [lg_entry_eq]
  generalize (lg_sl ([.ref a0, .int p1, .int p2, .int p3, .int p4]) ++ List.replicate (10 - (lg_sl ([.ref a0, .int p1, .int p2, .int p3, .int p4])).length) Slot.unset).toArray = ls at hl ⊢
  have hl : lv_has ls 10 [(0, .ref a0), (1, .int p1), (2, .int p2), (3, .int p3), (4, .int p4)] := hl
  unfold wp_X5_filled at h
  have hW2 : ∀ w ∈ (vx_atS RX5 51 "java/lang/IllegalStateException" ["java/lang/RuntimeException", "java/lang/Exception"]).filter goodWord, w.before _ s = true := fun w h9 => hts w (List.mem_cons_of_mem _ (List.mem_append_left _ (List.mem_append_left _ (List.mem_append_right _ (h9)))))
  have q2 : (Cond.classLink RX5 47 "java/lang/IllegalStateException").before _ s = true := hts _ (List.mem_cons_of_mem _ (List.mem_append_left _ (List.mem_append_left _ (List.mem_append_left _ (List.mem_append_left _ (List.mem_append_left _ (List.mem_append_left _ (List.mem_append_left _ (List.mem_append_left _ (List.mem_of_getElem? (i := 0) rfl))))))))))
  have q3 : (Cond.initialized "java/lang/IllegalStateException").before _ s = true := hts _ (List.mem_cons_of_mem _ (List.mem_append_left _ (List.mem_append_left _ (List.mem_append_left _ (List.mem_append_left _ (List.mem_append_left _ (List.mem_append_left _ (List.mem_append_left _ (List.mem_append_left _ (List.mem_of_getElem? (i := 1) rfl))))))))))
  have hL1 : ∀ w ∈ u_ws RX1 TX1 8, w.before _ s = true := fun w h9 => hts w (List.mem_cons_of_mem _ (List.mem_append_left _ (List.mem_append_left _ (List.mem_append_left _ (List.mem_append_left _ (List.mem_append_left _ (List.mem_append_left _ (List.mem_append_right _ (h9)))))))))
  have q5 : (Cond.fieldLink RX5 140 "RollupStore$Rollup" "begin" "I").before _ s = true := hts _ (List.mem_cons_of_mem _ (List.mem_append_left _ (List.mem_append_left _ (List.mem_append_left _ (List.mem_append_left _ (List.mem_append_left _ (List.mem_append_left _ (List.mem_append_left _ (List.mem_append_left _ (List.mem_of_getElem? (i := 2) rfl))))))))))
  have q6 : (Cond.fieldLink RX5 169 "RollupStore$Rollup" "last" "I").before _ s = true := hts _ (List.mem_cons_of_mem _ (List.mem_append_left _ (List.mem_append_left _ (List.mem_append_left _ (List.mem_append_left _ (List.mem_append_left _ (List.mem_append_left _ (List.mem_append_left _ (List.mem_append_left _ (List.mem_of_getElem? (i := 3) rfl))))))))))
  refine lv_aload_n hx hb dX5_filled_0 rfl (lv_at hl 0 rfl) ?_
  refine lv_iload_n hx hb dX5_filled_1 rfl (lv_at hl 1 rfl) ?_
  refine lv_iload_n hx hb dX5_filled_2 rfl (lv_at hl 2 rfl) ?_
  refine lv_iload_n hx hb dX5_filled_3 rfl (lv_at hl 3 rfl) ?_
  obtain ⟨g1, h⟩ := h
  refine xt_q (vx_runV (As := [.int p1, .int p2, .int p3]) (rest := []) ⟨hx, hb, hml, hown, hts⟩ (mt_X5_rollupsAt l hl9 G base h) (cwV 3 hts gX5_filled_X5_rollupsAt rfl rfl rfl (by decide +kernel) ⟨Nat.le_of_ble_eq_true rfl, Nat.le_of_ble_eq_true rfl⟩) (xp_V hbase hh hK hX hS (ci := 5) g1 (by decide) rfl) rfl rfl hl.1 rfl (lv_room (Nat.le_of_ble_eq_true rfl)) dX5_filled_4 ⟨Nat.le_of_ble_eq_true rfl, Nat.le_of_ble_eq_true rfl⟩) hS (fun k9 m9 H locs q9 ce h hh hS hc9 hv9 hcl9 => xe_out hout hlocks hbase hh hK hX hS h hc9 hv9 hcl9 (Nat.le_of_ble_eq_true rfl) (Nat.le_of_ble_eq_true rfl)) (fun r2 m3 H locs h hh hS => ?_)
  obtain ⟨b4, eb4, h⟩ := h
  rw [eb4]
  refine W.eq (g2 := F0 m 7 ls [.ref b4]) rfl ?_
  refine lv_astore (lv' := [(5, .ref b4), (0, .ref a0), (1, .int p1), (2, .int p2), (3, .int p3), (4, .int p4)]) hx hb dX5_filled_7 hl (by decide) rfl (fun ls hl => ?_)
  refine lv_iload hx hb dX5_filled_9 (lv_at hl 5 rfl) ?_
  refine lv_iconst (v := 0) hx hb dX5_filled_11 (by decide) ?_
  refine lv_iconst (v := 2) hx hb dX5_filled_12 (by decide) ?_
  refine xt_v (vx_runS (As := [.int p4, .int (0 : Int32), .int (2 : Int32)]) (rest := []) ⟨hx, hb, hml, hown, hts⟩ (mt_X5_needRange l hl9 G base h) (va_cwS 3 hts gX5_filled_X5_needRange rfl rfl rfl (by decide +kernel) ⟨Nat.le_of_ble_eq_true rfl, Nat.le_of_ble_eq_true rfl⟩) (xp_S hbase hh hK hX hS) rfl rfl hl.1 rfl (lv_room (Nat.le_of_ble_eq_true rfl)) dX5_filled_13 ⟨Nat.le_of_ble_eq_true rfl, Nat.le_of_ble_eq_true rfl⟩) hS (fun k9 m9 H locs q9 ce h hh hS hc9 hv9 hcl9 => xe_out hout hlocks hbase hh hK hX hS h hc9 hv9 hcl9 (Nat.le_of_ble_eq_true rfl) (Nat.le_of_ble_eq_true rfl)) (fun m6 H locs h hh hS => ?_)
  refine lv_iload_n hx hb dX5_filled_16 rfl (lv_at hl 3 rfl) ?_
  refine lv_iload_n hx hb dX5_filled_17 rfl (lv_at hl 4 rfl) ?_
  refine xc_i (va_runS (As := [.int p2, .int p3]) (rest := []) ⟨hx, hb, hml, hown, hts⟩ (mt_X5_beginOf l G base h) (va_cwS 2 hts gX5_filled_X5_beginOf rfl rfl rfl (by decide +kernel) ⟨Nat.le_of_ble_eq_true rfl, Nat.le_of_ble_eq_true rfl⟩) (xp_S hbase hh hK hX hS) rfl rfl hl.1 rfl (lv_room (Nat.le_of_ble_eq_true rfl)) dX5_filled_18 ⟨Nat.le_of_ble_eq_true rfl, Nat.le_of_ble_eq_true rfl⟩) hS (fun r7 m8 H locs h hh hS => ?_)
  refine lv_istore (lv' := [(6, .int r7), (5, .ref b4), (0, .ref a0), (1, .int p1), (2, .int p2), (3, .int p3), (4, .int p4)]) hx hb dX5_filled_21 hl (by decide) rfl (fun ls hl => ?_)
  refine lv_aload hx hb dX5_filled_23 (lv_at hl 1 rfl) ?_
  refine lv_iload hx hb dX5_filled_25 (lv_at hl 0 rfl) ?_
  obtain ⟨g9, h⟩ := h
  refine xc_i (va_runV (As := [.int r7]) (rest := []) ⟨hx, hb, hml, hown, hts⟩ (mt_X2_placeFrom l G base h) (cwV 1 hts gX5_filled_X2_placeFrom rfl rfl rfl (by decide +kernel) ⟨Nat.le_of_ble_eq_true rfl, Nat.le_of_ble_eq_true rfl⟩) (xp_V hbase hh hK hX hS (ci := 2) g9 (by decide) rfl) rfl rfl hl.1 rfl (lv_room (Nat.le_of_ble_eq_true rfl)) dX5_filled_27 ⟨Nat.le_of_ble_eq_true rfl, Nat.le_of_ble_eq_true rfl⟩) hS (fun r10 m11 H locs h hh hS => ?_)
  refine lv_istore (lv' := [(7, .int r10), (6, .int r7), (5, .ref b4), (0, .ref a0), (1, .int p1), (2, .int p2), (3, .int p3), (4, .int p4)]) hx hb dX5_filled_30 hl (by decide) rfl (fun ls hl => ?_)
  refine lv_aload hx hb dX5_filled_32 (lv_at hl 2 rfl) ?_
  refine lv_iload hx hb dX5_filled_34 (lv_at hl 0 rfl) ?_
  refine lv_iconst (v := 1) hx hb dX5_filled_36 (by decide) ?_
  refine lv_isub hx hb dX5_filled_37 ?_
  obtain ⟨g12, h⟩ := h
  refine xc_q (va_runV (As := [.int (r10 - (1 : Int32))]) (rest := []) ⟨hx, hb, hml, hown, hts⟩ (mt_X2_rowOrNull l G base h) (cwV 1 hts gX5_filled_X2_rowOrNull rfl rfl rfl (by decide +kernel) ⟨Nat.le_of_ble_eq_true rfl, Nat.le_of_ble_eq_true rfl⟩) (xp_V hbase hh hK hX hS (ci := 2) g12 (by decide) rfl) rfl rfl hl.1 rfl (lv_room (Nat.le_of_ble_eq_true rfl)) dX5_filled_38 ⟨Nat.le_of_ble_eq_true rfl, Nat.le_of_ble_eq_true rfl⟩) hS (fun r13 m14 H locs h hh hS => ?_)
  rcases r13 with _ | b15
  · refine W.eq (g2 := F0 m 41 ls [.null]) rfl ?_
    replace h := h.1 rfl
    refine lv_astoreN (lv' := [(8, .null), (7, .int r10), (6, .int r7), (5, .ref b4), (0, .ref a0), (1, .int p1), (2, .int p2), (3, .int p3), (4, .int p4)]) hx hb dX5_filled_41 hl (by decide) rfl (fun ls hl => ?_)
    refine lv_aload hx hb dX5_filled_43 (lv_at hl 3 rfl) ?_
    refine lv_iload hx hb dX5_filled_45 (lv_at hl 1 rfl) ?_
    obtain ⟨g16, h⟩ := h
    refine xc_q (va_runV (As := [.int r10]) (rest := []) ⟨hx, hb, hml, hown, hts⟩ (mt_X2_rowOrNull l G base h) (cwV 1 hts gX5_filled_X2_rowOrNull rfl rfl rfl (by decide +kernel) ⟨Nat.le_of_ble_eq_true rfl, Nat.le_of_ble_eq_true rfl⟩) (xp_V hbase hh hK hX hS (ci := 2) g16 (by decide) rfl) rfl rfl hl.1 rfl (lv_room (Nat.le_of_ble_eq_true rfl)) dX5_filled_47 ⟨Nat.le_of_ble_eq_true rfl, Nat.le_of_ble_eq_true rfl⟩) hS (fun r17 m18 H locs h hh hS => ?_)
    rcases r17 with _ | b19
    · refine W.eq (g2 := F0 m 50 ls [.null]) rfl ?_
      replace h := h.1 rfl
      refine lv_astoreN (lv' := [(9, .null), (8, .null), (7, .int r10), (6, .int r7), (5, .ref b4), (0, .ref a0), (1, .int p1), (2, .int p2), (3, .int p3), (4, .int p4)]) hx hb dX5_filled_50 hl (by decide) rfl (fun ls hl => ?_)
      refine lv_aloadN hx hb dX5_filled_52 (lv_at hl 0 rfl) ?_
      refine lv_ifnullN (tgt := 73) hx hb dX5_filled_54 (by decide) ?_
      refine lv_iload hx hb dX5_filled_73 (lv_at hl 9 rfl) ?_
      refine lv_if_ne (tgt := 80) hx hb dX5_filled_75 (by decide) (fun c20 => ?_) (fun c20 => ?_)
      · replace h := h.1 c20
        refine lv_aloadN hx hb dX5_filled_80 (lv_at hl 1 rfl) ?_
        refine lv_ifnullN (tgt := 96) hx hb dX5_filled_82 (by decide) ?_
        exact xe_throw2 (text := "the rule finds no rollup that it needs") (is := 182) hx hb hl9 hout hlocks hbase hh hX hS hown q2 q3 hW2 (List.mem_of_getElem? (i := 3) rfl) (hl.1.trans hml.symm) dX5_filled_96 dX5_filled_99 dX5_filled_100 dX5_filled_102 dX5_filled_105 (Nat.le_of_ble_eq_true rfl) (Nat.le_of_ble_eq_true rfl) (Nat.le_of_ble_eq_true rfl) (Nat.le_of_ble_eq_true rfl) h (Nat.le_of_ble_eq_true rfl) (Nat.le_of_ble_eq_true rfl)
      · replace h := h.2 c20
        refine lv_iconst (v := 0) hx hb dX5_filled_78 (by decide) ?_
        exact vx_ret (xe_i hx hb hr hlocks hbase hh hK hX hS h (Nat.le_of_ble_eq_true rfl) (Nat.le_of_ble_eq_true rfl) dX5_filled_79)
    · refine W.eq (g2 := F0 m 50 ls [.ref b19]) rfl ?_
      replace h := h.2 b19 rfl
      refine lv_astore (lv' := [(9, .ref b19), (8, .null), (7, .int r10), (6, .int r7), (5, .ref b4), (0, .ref a0), (1, .int p1), (2, .int p2), (3, .int p3), (4, .int p4)]) hx hb dX5_filled_50 hl (by decide) rfl (fun ls hl => ?_)
      refine lv_aload hx hb dX5_filled_52 (lv_at hl 0 rfl) ?_
      refine lv_ifnull hx hb dX5_filled_54 ?_
      refine lv_aload hx hb dX5_filled_57 (lv_at hl 0 rfl) ?_
      obtain ⟨g21, h⟩ := h
      refine xr_getI (ci := 1) (C := RX1) (T := TX1) (N := 8) hx hb hL1 hown hK hh g21 (by decide) rfl 0 20 rfl rfl (by decide) (by decide) q5 (fun _ h9 => h9) dX5_filled_59 ?_
      refine lv_iload hx hb dX5_filled_62 (lv_at hl 3 rfl) ?_
      refine lv_icmp_ne (tgt := 73) hx hb dX5_filled_64 (by decide) (fun c22 => ?_) (fun c22 => ?_)
      · replace h := h.1 c22
        refine lv_iload hx hb dX5_filled_73 (lv_at hl 9 rfl) ?_
        refine lv_if_ne (tgt := 80) hx hb dX5_filled_75 (by decide) (fun c23 => ?_) (fun c23 => ?_)
        · replace h := h.1 c23
          refine lv_aloadN hx hb dX5_filled_80 (lv_at hl 1 rfl) ?_
          refine lv_ifnullN (tgt := 96) hx hb dX5_filled_82 (by decide) ?_
          exact xe_throw2 (text := "the rule finds no rollup that it needs") (is := 182) hx hb hl9 hout hlocks hbase hh hX hS hown q2 q3 hW2 (List.mem_of_getElem? (i := 3) rfl) (hl.1.trans hml.symm) dX5_filled_96 dX5_filled_99 dX5_filled_100 dX5_filled_102 dX5_filled_105 (Nat.le_of_ble_eq_true rfl) (Nat.le_of_ble_eq_true rfl) (Nat.le_of_ble_eq_true rfl) (Nat.le_of_ble_eq_true rfl) h (Nat.le_of_ble_eq_true rfl) (Nat.le_of_ble_eq_true rfl)
        · replace h := h.2 c23
          refine lv_iconst (v := 0) hx hb dX5_filled_78 (by decide) ?_
          exact vx_ret (xe_i hx hb hr hlocks hbase hh hK hX hS h (Nat.le_of_ble_eq_true rfl) (Nat.le_of_ble_eq_true rfl) dX5_filled_79)
      · replace h := h.2 c22
        refine lv_aload hx hb dX5_filled_67 (lv_at hl 0 rfl) ?_
        obtain ⟨g24, h⟩ := h
        refine xr_getI (ci := 1) (C := RX1) (T := TX1) (N := 8) hx hb hL1 hown hK hh g24 (by decide) rfl 6 26 rfl rfl (by decide) (by decide) q6 (fun _ h9 => h9) dX5_filled_69 ?_
        exact vx_ret (xe_i hx hb hr hlocks hbase hh hK hX hS h (Nat.le_of_ble_eq_true rfl) (Nat.le_of_ble_eq_true rfl) dX5_filled_72)
  · refine W.eq (g2 := F0 m 41 ls [.ref b15]) rfl ?_
    replace h := h.2 b15 rfl
    refine lv_astore (lv' := [(8, .ref b15), (7, .int r10), (6, .int r7), (5, .ref b4), (0, .ref a0), (1, .int p1), (2, .int p2), (3, .int p3), (4, .int p4)]) hx hb dX5_filled_41 hl (by decide) rfl (fun ls hl => ?_)
    refine lv_aload hx hb dX5_filled_43 (lv_at hl 3 rfl) ?_
    refine lv_iload hx hb dX5_filled_45 (lv_at hl 1 rfl) ?_
    obtain ⟨g25, h⟩ := h
    refine xc_q (va_runV (As := [.int r10]) (rest := []) ⟨hx, hb, hml, hown, hts⟩ (mt_X2_rowOrNull l G base h) (cwV 1 hts gX5_filled_X2_rowOrNull rfl rfl rfl (by decide +kernel) ⟨Nat.le_of_ble_eq_true rfl, Nat.le_of_ble_eq_true rfl⟩) (xp_V hbase hh hK hX hS (ci := 2) g25 (by decide) rfl) rfl rfl hl.1 rfl (lv_room (Nat.le_of_ble_eq_true rfl)) dX5_filled_47 ⟨Nat.le_of_ble_eq_true rfl, Nat.le_of_ble_eq_true rfl⟩) hS (fun r26 m27 H locs h hh hS => ?_)
    rcases r26 with _ | b28
    · refine W.eq (g2 := F0 m 50 ls [.null]) rfl ?_
      replace h := h.1 rfl
      refine lv_astoreN (lv' := [(9, .null), (8, .ref b15), (7, .int r10), (6, .int r7), (5, .ref b4), (0, .ref a0), (1, .int p1), (2, .int p2), (3, .int p3), (4, .int p4)]) hx hb dX5_filled_50 hl (by decide) rfl (fun ls hl => ?_)
      refine lv_aloadN hx hb dX5_filled_52 (lv_at hl 0 rfl) ?_
      refine lv_ifnullN (tgt := 73) hx hb dX5_filled_54 (by decide) ?_
      refine lv_iload hx hb dX5_filled_73 (lv_at hl 9 rfl) ?_
      refine lv_if_ne (tgt := 80) hx hb dX5_filled_75 (by decide) (fun c29 => ?_) (fun c29 => ?_)
      · replace h := h.1 c29
        refine lv_aload hx hb dX5_filled_80 (lv_at hl 1 rfl) ?_
        refine lv_ifnull hx hb dX5_filled_82 ?_
        refine lv_iload hx hb dX5_filled_85 (lv_at hl 9 rfl) ?_
        refine lv_iconst (v := 2) hx hb dX5_filled_87 (by decide) ?_
        refine lv_icmp_ne (tgt := 106) hx hb dX5_filled_88 (by decide) (fun c30 => ?_) (fun c30 => ?_)
        · replace h := h.1 c30
          refine lv_iload hx hb dX5_filled_106 (lv_at hl 9 rfl) ?_
          refine lv_iconst (v := 1) hx hb dX5_filled_108 (by decide) ?_
          refine lv_icmp_ne (tgt := 120) hx hb dX5_filled_109 (by decide) (fun c31 => ?_) (fun c31 => ?_)
          · replace h := h.1 c31
            refine lv_aload hx hb dX5_filled_120 (lv_at hl 1 rfl) ?_
            refine lv_aloadN hx hb dX5_filled_122 (lv_at hl 0 rfl) ?_
            refine lv_iload hx hb dX5_filled_124 (lv_at hl 3 rfl) ?_
            exact h.elim
          · replace h := h.2 c31
            refine lv_aload hx hb dX5_filled_112 (lv_at hl 1 rfl) ?_
            obtain ⟨g32, h⟩ := h
            refine xr_getI (ci := 1) (C := RX1) (T := TX1) (N := 8) hx hb hL1 hown hK hh g32 (by decide) rfl 6 26 rfl rfl (by decide) (by decide) q6 (fun _ h9 => h9) dX5_filled_114 ?_
            refine lv_goto (tgt := 129) hx hb dX5_filled_117 (by decide) ?_
            exact vx_ret (xe_i hx hb hr hlocks hbase hh hK hX hS h (Nat.le_of_ble_eq_true rfl) (Nat.le_of_ble_eq_true rfl) dX5_filled_129)
        · replace h := h.2 c30
          refine lv_aloadN hx hb dX5_filled_91 (lv_at hl 0 rfl) ?_
          refine lv_ifnonnullN hx hb dX5_filled_93 ?_
          exact xe_throw2 (text := "the rule finds no rollup that it needs") (is := 182) hx hb hl9 hout hlocks hbase hh hX hS hown q2 q3 hW2 (List.mem_of_getElem? (i := 3) rfl) (hl.1.trans hml.symm) dX5_filled_96 dX5_filled_99 dX5_filled_100 dX5_filled_102 dX5_filled_105 (Nat.le_of_ble_eq_true rfl) (Nat.le_of_ble_eq_true rfl) (Nat.le_of_ble_eq_true rfl) (Nat.le_of_ble_eq_true rfl) h (Nat.le_of_ble_eq_true rfl) (Nat.le_of_ble_eq_true rfl)
      · replace h := h.2 c29
        refine lv_iconst (v := 0) hx hb dX5_filled_78 (by decide) ?_
        exact vx_ret (xe_i hx hb hr hlocks hbase hh hK hX hS h (Nat.le_of_ble_eq_true rfl) (Nat.le_of_ble_eq_true rfl) dX5_filled_79)
    · refine W.eq (g2 := F0 m 50 ls [.ref b28]) rfl ?_
      replace h := h.2 b28 rfl
      refine lv_astore (lv' := [(9, .ref b28), (8, .ref b15), (7, .int r10), (6, .int r7), (5, .ref b4), (0, .ref a0), (1, .int p1), (2, .int p2), (3, .int p3), (4, .int p4)]) hx hb dX5_filled_50 hl (by decide) rfl (fun ls hl => ?_)
      refine lv_aload hx hb dX5_filled_52 (lv_at hl 0 rfl) ?_
      refine lv_ifnull hx hb dX5_filled_54 ?_
      refine lv_aload hx hb dX5_filled_57 (lv_at hl 0 rfl) ?_
      obtain ⟨g33, h⟩ := h
      refine xr_getI (ci := 1) (C := RX1) (T := TX1) (N := 8) hx hb hL1 hown hK hh g33 (by decide) rfl 0 20 rfl rfl (by decide) (by decide) q5 (fun _ h9 => h9) dX5_filled_59 ?_
      refine lv_iload hx hb dX5_filled_62 (lv_at hl 3 rfl) ?_
      refine lv_icmp_ne (tgt := 73) hx hb dX5_filled_64 (by decide) (fun c34 => ?_) (fun c34 => ?_)
      · replace h := h.1 c34
        refine lv_iload hx hb dX5_filled_73 (lv_at hl 9 rfl) ?_
        refine lv_if_ne (tgt := 80) hx hb dX5_filled_75 (by decide) (fun c35 => ?_) (fun c35 => ?_)
        · replace h := h.1 c35
          refine lv_aload hx hb dX5_filled_80 (lv_at hl 1 rfl) ?_
          refine lv_ifnull hx hb dX5_filled_82 ?_
          refine lv_iload hx hb dX5_filled_85 (lv_at hl 9 rfl) ?_
          refine lv_iconst (v := 2) hx hb dX5_filled_87 (by decide) ?_
          refine lv_icmp_ne (tgt := 106) hx hb dX5_filled_88 (by decide) (fun c36 => ?_) (fun c36 => ?_)
          · replace h := h.1 c36
            refine lv_iload hx hb dX5_filled_106 (lv_at hl 9 rfl) ?_
            refine lv_iconst (v := 1) hx hb dX5_filled_108 (by decide) ?_
            refine lv_icmp_ne (tgt := 120) hx hb dX5_filled_109 (by decide) (fun c37 => ?_) (fun c37 => ?_)
            · replace h := h.1 c37
              refine lv_aload hx hb dX5_filled_120 (lv_at hl 1 rfl) ?_
              refine lv_aload hx hb dX5_filled_122 (lv_at hl 0 rfl) ?_
              refine lv_iload hx hb dX5_filled_124 (lv_at hl 3 rfl) ?_
              refine xc_i (va_runS (As := [.ref b15, .ref b28, .int r7]) (rest := []) ⟨hx, hb, hml, hown, hts⟩ (mt_X5_valueBetween l G base h) (va_cwS 3 hts gX5_filled_X5_valueBetween rfl rfl rfl (by decide +kernel) ⟨Nat.le_of_ble_eq_true rfl, Nat.le_of_ble_eq_true rfl⟩) (xp_S hbase hh hK hX hS) rfl rfl hl.1 rfl (lv_room (Nat.le_of_ble_eq_true rfl)) dX5_filled_126 ⟨Nat.le_of_ble_eq_true rfl, Nat.le_of_ble_eq_true rfl⟩) hS (fun r38 m39 H locs h hh hS => ?_)
              exact vx_ret (xe_i hx hb hr hlocks hbase hh hK hX hS h (Nat.le_of_ble_eq_true rfl) (Nat.le_of_ble_eq_true rfl) dX5_filled_129)
            · replace h := h.2 c37
              refine lv_aload hx hb dX5_filled_112 (lv_at hl 1 rfl) ?_
              obtain ⟨g40, h⟩ := h
              refine xr_getI (ci := 1) (C := RX1) (T := TX1) (N := 8) hx hb hL1 hown hK hh g40 (by decide) rfl 6 26 rfl rfl (by decide) (by decide) q6 (fun _ h9 => h9) dX5_filled_114 ?_
              refine lv_goto (tgt := 129) hx hb dX5_filled_117 (by decide) ?_
              exact vx_ret (xe_i hx hb hr hlocks hbase hh hK hX hS h (Nat.le_of_ble_eq_true rfl) (Nat.le_of_ble_eq_true rfl) dX5_filled_129)
          · replace h := h.2 c36
            refine lv_aload hx hb dX5_filled_91 (lv_at hl 0 rfl) ?_
            refine lv_ifnonnull (tgt := 106) hx hb dX5_filled_93 (by decide) ?_
            refine lv_iload hx hb dX5_filled_106 (lv_at hl 9 rfl) ?_
            refine lv_iconst (v := 1) hx hb dX5_filled_108 (by decide) ?_
            refine lv_icmp_ne (tgt := 120) hx hb dX5_filled_109 (by decide) (fun c41 => ?_) (fun c41 => ?_)
            · replace h := h.1 c41
              refine lv_aload hx hb dX5_filled_120 (lv_at hl 1 rfl) ?_
              refine lv_aload hx hb dX5_filled_122 (lv_at hl 0 rfl) ?_
              refine lv_iload hx hb dX5_filled_124 (lv_at hl 3 rfl) ?_
              refine xc_i (va_runS (As := [.ref b15, .ref b28, .int r7]) (rest := []) ⟨hx, hb, hml, hown, hts⟩ (mt_X5_valueBetween l G base h) (va_cwS 3 hts gX5_filled_X5_valueBetween rfl rfl rfl (by decide +kernel) ⟨Nat.le_of_ble_eq_true rfl, Nat.le_of_ble_eq_true rfl⟩) (xp_S hbase hh hK hX hS) rfl rfl hl.1 rfl (lv_room (Nat.le_of_ble_eq_true rfl)) dX5_filled_126 ⟨Nat.le_of_ble_eq_true rfl, Nat.le_of_ble_eq_true rfl⟩) hS (fun r42 m43 H locs h hh hS => ?_)
              exact vx_ret (xe_i hx hb hr hlocks hbase hh hK hX hS h (Nat.le_of_ble_eq_true rfl) (Nat.le_of_ble_eq_true rfl) dX5_filled_129)
            · replace h := h.2 c41
              refine lv_aload hx hb dX5_filled_112 (lv_at hl 1 rfl) ?_
              obtain ⟨g44, h⟩ := h
              refine xr_getI (ci := 1) (C := RX1) (T := TX1) (N := 8) hx hb hL1 hown hK hh g44 (by decide) rfl 6 26 rfl rfl (by decide) (by decide) q6 (fun _ h9 => h9) dX5_filled_114 ?_
              refine lv_goto (tgt := 129) hx hb dX5_filled_117 (by decide) ?_
              exact vx_ret (xe_i hx hb hr hlocks hbase hh hK hX hS h (Nat.le_of_ble_eq_true rfl) (Nat.le_of_ble_eq_true rfl) dX5_filled_129)
        · replace h := h.2 c35
          refine lv_iconst (v := 0) hx hb dX5_filled_78 (by decide) ?_
          exact vx_ret (xe_i hx hb hr hlocks hbase hh hK hX hS h (Nat.le_of_ble_eq_true rfl) (Nat.le_of_ble_eq_true rfl) dX5_filled_79)
      · replace h := h.2 c34
        refine lv_aload hx hb dX5_filled_67 (lv_at hl 0 rfl) ?_
        obtain ⟨g45, h⟩ := h
        refine xr_getI (ci := 1) (C := RX1) (T := TX1) (N := 8) hx hb hL1 hown hK hh g45 (by decide) rfl 6 26 rfl rfl (by decide) (by decide) q6 (fun _ h9 => h9) dX5_filled_69 ?_
        exact vx_ret (xe_i hx hb hr hlocks hbase hh hK hX hS h (Nat.le_of_ble_eq_true rfl) (Nat.le_of_ble_eq_true rfl) dX5_filled_72)

set_option maxHeartbeats 4000000 in
set_option maxRecDepth 100000 in
theorem mt_X5_rollupAt (l : Launch) (hl9 : l.stackTraces = false) (G : GG) (base : Nat) {a0 : Nat} {p1 : Int32} {p2 : Int32} {p3 : Int32} {m0 : MM} {Q : Option Nat → MM → Prop} {X : Nat → MM → Prop} (h : wp_X5_rollupAt a0 p1 p2 p3 m0 Q X) : vx_Met l yX5_rollupAt wsX5_rollupAt ({ frames := 9, cells := 4, slots := 24, locals := 165 }) (va_Pc [.ref a0, .int p1, .int p2, .int p3] (SP G base m0)) (va_Qq Q (HB G base) (xA base)) (xX G base X) 4 24 (xA base) := by
  refine vx_ofW (cc := cX5_rollupAt) (maxL := 5) (ret := (some (.object "RollupStore$Rollup"))) (by decide) rfl ?_
  intro p e s m args below meth c s₁ B hml hout hv
  obtain ⟨rfl, hbase, hh, hK, hX⟩ := hv
  have C0 : BC p s m _ meth c G base RX5 cX5_rollupAt 5 (some (.object "RollupStore$Rollup")) wsX5_rollupAt := ⟨B.exec, B.bytes, B.returns, hml, findClass_of_methodNamed B.named, atoms_spec (ws := wsX5_rollupAt) B.pre, B.notSynchronized, hK, hbase, hX⟩
  obtain ⟨hx, hb, hr, -, hown, hts, hlocks, -, -, -⟩ := id C0
  have hS : va_S (xA base) s.heap s.heap [] := va_S.rf
  have hl := lv_entry ([.ref a0, .int p1, .int p2, .int p3]) (n := 5) (Nat.le_of_ble_eq_true rfl)
  rw [lg_entry_eq]
  generalize (lg_sl ([.ref a0, .int p1, .int p2, .int p3]) ++ List.replicate (5 - (lg_sl ([.ref a0, .int p1, .int p2, .int p3])).length) Slot.unset).toArray = ls at hl ⊢
  have hl : lv_has ls 5 [(0, .ref a0), (1, .int p1), (2, .int p2), (3, .int p3)] := hl
  unfold wp_X5_rollupAt at h
  have hW2 : ∀ w ∈ (vx_atS RX5 51 "java/lang/IllegalStateException" ["java/lang/RuntimeException", "java/lang/Exception"]).filter goodWord, w.before _ s = true := fun w h9 => hts w (List.mem_cons_of_mem _ (List.mem_append_left _ (List.mem_append_left _ (List.mem_append_right _ (h9)))))
  have q2 : (Cond.classLink RX5 47 "java/lang/IllegalStateException").before _ s = true := hts _ (List.mem_cons_of_mem _ (List.mem_append_left _ (List.mem_append_left _ (List.mem_append_left _ (List.mem_append_left _ (List.mem_append_left _ (List.mem_append_left _ (List.mem_append_left _ (List.mem_append_left _ (List.mem_of_getElem? (i := 0) rfl))))))))))
  have q3 : (Cond.initialized "java/lang/IllegalStateException").before _ s = true := hts _ (List.mem_cons_of_mem _ (List.mem_append_left _ (List.mem_append_left _ (List.mem_append_left _ (List.mem_append_left _ (List.mem_append_left _ (List.mem_append_left _ (List.mem_append_left _ (List.mem_append_left _ (List.mem_of_getElem? (i := 1) rfl))))))))))
  refine lv_aload_n hx hb dX5_rollupAt_0 rfl (lv_at hl 0 rfl) ?_
  refine lv_iload_n hx hb dX5_rollupAt_1 rfl (lv_at hl 1 rfl) ?_
  refine lv_iload_n hx hb dX5_rollupAt_2 rfl (lv_at hl 2 rfl) ?_
  refine lv_iload_n hx hb dX5_rollupAt_3 rfl (lv_at hl 3 rfl) ?_
  obtain ⟨g1, h⟩ := h
  refine xt_q (vx_runV (As := [.int p1, .int p2, .int p3]) (rest := []) ⟨hx, hb, hml, hown, hts⟩ (mt_X5_rollupOrNull l hl9 G base h) (cwV 3 hts gX5_rollupAt_X5_rollupOrNull rfl rfl rfl (by decide +kernel) ⟨Nat.le_of_ble_eq_true rfl, Nat.le_of_ble_eq_true rfl⟩) (xp_V hbase hh hK hX hS (ci := 5) g1 (by decide) rfl) rfl rfl hl.1 rfl (lv_room (Nat.le_of_ble_eq_true rfl)) dX5_rollupAt_4 ⟨Nat.le_of_ble_eq_true rfl, Nat.le_of_ble_eq_true rfl⟩) hS (fun k9 m9 H locs q9 ce h hh hS hc9 hv9 hcl9 => xe_out hout hlocks hbase hh hK hX hS h hc9 hv9 hcl9 (Nat.le_of_ble_eq_true rfl) (Nat.le_of_ble_eq_true rfl)) (fun r2 m3 H locs h hh hS => ?_)
  rcases r2 with _ | b4
  · refine W.eq (g2 := F0 m 7 ls [.null]) rfl ?_
    replace h := h.1 rfl
    refine lv_astoreN (lv' := [(4, .null), (0, .ref a0), (1, .int p1), (2, .int p2), (3, .int p3)]) hx hb dX5_rollupAt_7 hl (by decide) rfl (fun ls hl => ?_)
    refine lv_aloadN hx hb dX5_rollupAt_9 (lv_at hl 0 rfl) ?_
    refine lv_ifnonnullN hx hb dX5_rollupAt_11 ?_
    exact xe_throw2W (text := "there is no rollup") (is := 261) hx hb hl9 hout hlocks hbase hh hX hS hown q2 q3 hW2 (List.mem_of_getElem? (i := 13) rfl) (hl.1.trans hml.symm) dX5_rollupAt_14 dX5_rollupAt_17 dX5_rollupAt_18 dX5_rollupAt_21 dX5_rollupAt_24 (Nat.le_of_ble_eq_true rfl) (Nat.le_of_ble_eq_true rfl) (Nat.le_of_ble_eq_true rfl) (Nat.le_of_ble_eq_true rfl) h (Nat.le_of_ble_eq_true rfl) (Nat.le_of_ble_eq_true rfl)
  · refine W.eq (g2 := F0 m 7 ls [.ref b4]) rfl ?_
    replace h := h.2 b4 rfl
    refine lv_astore (lv' := [(4, .ref b4), (0, .ref a0), (1, .int p1), (2, .int p2), (3, .int p3)]) hx hb dX5_rollupAt_7 hl (by decide) rfl (fun ls hl => ?_)
    refine lv_aload hx hb dX5_rollupAt_9 (lv_at hl 0 rfl) ?_
    refine lv_ifnonnull (tgt := 25) hx hb dX5_rollupAt_11 (by decide) ?_
    refine lv_aload hx hb dX5_rollupAt_25 (lv_at hl 0 rfl) ?_
    exact vx_ret (xe_q (v := (some b4)) hx hb hr hlocks hbase hh hK hX hS h (Nat.le_of_ble_eq_true rfl) (Nat.le_of_ble_eq_true rfl) dX5_rollupAt_27)

set_option maxHeartbeats 4000000 in
set_option maxRecDepth 100000 in
theorem mtq_X5_rollupAt (l : Launch) (G : GG) (base : Nat) {a0 : Nat} {p1 : Int32} {p2 : Int32} {p3 : Int32} {m0 : MM} {Q : Option Nat → MM → Prop} (h : wp_X5_rollupAt a0 p1 p2 p3 m0 Q (fun _ _ => False)) : Met l yX5_rollupAt wsX5_rollupAt ({ frames := 9, cells := 0, slots := 0, locals := 165 }) (va_Pc [.ref a0, .int p1, .int p2, .int p3] (SP G base m0)) (va_Qq Q (HB G base) (xA base)) 0 0 (xA base) := by
  refine Met.ofW (cc := cX5_rollupAt) (maxL := 5) (ret := (some (.object "RollupStore$Rollup"))) (by decide) rfl ?_
  intro p e s m args below meth c s₁ B hml hv
  obtain ⟨rfl, hbase, hh, hK, hX⟩ := hv
  have C0 : BC p s m _ meth c G base RX5 cX5_rollupAt 5 (some (.object "RollupStore$Rollup")) wsX5_rollupAt := ⟨B.exec, B.bytes, B.returns, hml, findClass_of_methodNamed B.named, atoms_spec (ws := wsX5_rollupAt) B.pre, B.notSynchronized, hK, hbase, hX⟩
  obtain ⟨hx, hb, hr, -, hown, hts, hlocks, -, -, -⟩ := id C0
  have hS : va_S (xA base) s.heap s.heap [] := va_S.rf
  have hl := lv_entry ([.ref a0, .int p1, .int p2, .int p3]) (n := 5) (Nat.le_of_ble_eq_true rfl)
  rw [lg_entry_eq]
  generalize (lg_sl ([.ref a0, .int p1, .int p2, .int p3]) ++ List.replicate (5 - (lg_sl ([.ref a0, .int p1, .int p2, .int p3])).length) Slot.unset).toArray = ls at hl ⊢
  have hl : lv_has ls 5 [(0, .ref a0), (1, .int p1), (2, .int p2), (3, .int p3)] := hl
  unfold wp_X5_rollupAt at h
  refine lv_aload_n hx hb dX5_rollupAt_0 rfl (lv_at hl 0 rfl) ?_
  refine lv_iload_n hx hb dX5_rollupAt_1 rfl (lv_at hl 1 rfl) ?_
  refine lv_iload_n hx hb dX5_rollupAt_2 rfl (lv_at hl 2 rfl) ?_
  refine lv_iload_n hx hb dX5_rollupAt_3 rfl (lv_at hl 3 rfl) ?_
  obtain ⟨g1, h⟩ := h
  refine xc_q (va_runV (As := [.int p1, .int p2, .int p3]) (rest := []) ⟨hx, hb, hml, hown, hts⟩ (mtq_X5_rollupOrNull l G base h) (cwV 3 hts gX5_rollupAt_X5_rollupOrNull rfl rfl rfl (by decide +kernel) ⟨Nat.le_of_ble_eq_true rfl, Nat.le_of_ble_eq_true rfl⟩) (xp_V hbase hh hK hX hS (ci := 5) g1 (by decide) rfl) rfl rfl hl.1 rfl (lv_room (Nat.le_of_ble_eq_true rfl)) dX5_rollupAt_4 ⟨Nat.le_of_ble_eq_true rfl, Nat.le_of_ble_eq_true rfl⟩) hS (fun r2 m3 H locs h hh hS => ?_)
  rcases r2 with _ | b4
  · refine W.eq (g2 := F0 m 7 ls [.null]) rfl ?_
    replace h := h.1 rfl
    refine lv_astoreN (lv' := [(4, .null), (0, .ref a0), (1, .int p1), (2, .int p2), (3, .int p3)]) hx hb dX5_rollupAt_7 hl (by decide) rfl (fun ls hl => ?_)
    refine lv_aloadN hx hb dX5_rollupAt_9 (lv_at hl 0 rfl) ?_
    refine lv_ifnonnullN hx hb dX5_rollupAt_11 ?_
    exact h.elim
  · refine W.eq (g2 := F0 m 7 ls [.ref b4]) rfl ?_
    replace h := h.2 b4 rfl
    refine lv_astore (lv' := [(4, .ref b4), (0, .ref a0), (1, .int p1), (2, .int p2), (3, .int p3)]) hx hb dX5_rollupAt_7 hl (by decide) rfl (fun ls hl => ?_)
    refine lv_aload hx hb dX5_rollupAt_9 (lv_at hl 0 rfl) ?_
    refine lv_ifnonnull (tgt := 25) hx hb dX5_rollupAt_11 (by decide) ?_
    refine lv_aload hx hb dX5_rollupAt_25 (lv_at hl 0 rfl) ?_
    exact (xe_q (v := (some b4)) hx hb hr hlocks hbase hh hK hX hS h (Nat.le_of_ble_eq_true rfl) (Nat.le_of_ble_eq_true rfl) dX5_rollupAt_27)

set_option maxHeartbeats 4000000 in
set_option maxRecDepth 100000 in
theorem mt_X5_last (l : Launch) (hl9 : l.stackTraces = false) (G : GG) (base : Nat) {a0 : Nat} {p1 : Int32} {p2 : Int32} {p3 : Int32} {m0 : MM} {Q : Int32 → MM → Prop} {X : Nat → MM → Prop} (h : wp_X5_last a0 p1 p2 p3 m0 Q X) : vx_Met l yX5_last wsX5_last ({ frames := 10, cells := 4, slots := 24, locals := 189 }) (va_Pc [.ref a0, .int p1, .int p2, .int p3] (SP G base m0)) (va_Qi Q (HB G base) (xA base)) (xX G base X) 4 24 (xA base) := by
  refine vx_ofW (cc := cX5_last) (maxL := 4) (ret := (some .int)) (by decide) rfl ?_
  intro p e s m args below meth c s₁ B hml hout hv
  obtain ⟨rfl, hbase, hh, hK, hX⟩ := hv
  have C0 : BC p s m _ meth c G base RX5 cX5_last 4 (some .int) wsX5_last := ⟨B.exec, B.bytes, B.returns, hml, findClass_of_methodNamed B.named, atoms_spec (ws := wsX5_last) B.pre, B.notSynchronized, hK, hbase, hX⟩
  obtain ⟨hx, hb, hr, -, hown, hts, hlocks, -, -, -⟩ := id C0
  have hS : va_S (xA base) s.heap s.heap [] := va_S.rf
  have hl := lv_entry ([.ref a0, .int p1, .int p2, .int p3]) (n := 4) (Nat.le_of_ble_eq_true rfl)
  rw [lg_entry_eq]
  generalize (lg_sl ([.ref a0, .int p1, .int p2, .int p3]) ++ List.replicate (4 - (lg_sl ([.ref a0, .int p1, .int p2, .int p3])).length) Slot.unset).toArray = ls at hl ⊢
  have hl : lv_has ls 4 [(0, .ref a0), (1, .int p1), (2, .int p2), (3, .int p3)] := hl
  unfold wp_X5_last at h
  have hL1 : ∀ w ∈ u_ws RX1 TX1 8, w.before _ s = true := fun w h9 => hts w (List.mem_cons_of_mem _ (List.mem_append_left _ (List.mem_append_left _ (List.mem_append_left _ (List.mem_append_left _ (List.mem_append_left _ (List.mem_append_left _ (List.mem_append_right _ (h9)))))))))
  have q2 : (Cond.fieldLink RX5 169 "RollupStore$Rollup" "last" "I").before _ s = true := hts _ (List.mem_cons_of_mem _ (List.mem_append_left _ (List.mem_append_left _ (List.mem_append_left _ (List.mem_append_left _ (List.mem_append_left _ (List.mem_append_left _ (List.mem_append_left _ (List.mem_append_left _ (List.mem_of_getElem? (i := 0) rfl))))))))))
  refine lv_aload_n hx hb dX5_last_0 rfl (lv_at hl 0 rfl) ?_
  refine lv_iload_n hx hb dX5_last_1 rfl (lv_at hl 1 rfl) ?_
  refine lv_iload_n hx hb dX5_last_2 rfl (lv_at hl 2 rfl) ?_
  refine lv_iload_n hx hb dX5_last_3 rfl (lv_at hl 3 rfl) ?_
  obtain ⟨g1, h⟩ := h
  refine xt_q (vx_runV (As := [.int p1, .int p2, .int p3]) (rest := []) ⟨hx, hb, hml, hown, hts⟩ (mt_X5_rollupAt l hl9 G base h) (cwV 3 hts gX5_last_X5_rollupAt rfl rfl rfl (by decide +kernel) ⟨Nat.le_of_ble_eq_true rfl, Nat.le_of_ble_eq_true rfl⟩) (xp_V hbase hh hK hX hS (ci := 5) g1 (by decide) rfl) rfl rfl hl.1 rfl (lv_room (Nat.le_of_ble_eq_true rfl)) dX5_last_4 ⟨Nat.le_of_ble_eq_true rfl, Nat.le_of_ble_eq_true rfl⟩) hS (fun k9 m9 H locs q9 ce h hh hS hc9 hv9 hcl9 => xe_out hout hlocks hbase hh hK hX hS h hc9 hv9 hcl9 (Nat.le_of_ble_eq_true rfl) (Nat.le_of_ble_eq_true rfl)) (fun r2 m3 H locs h hh hS => ?_)
  obtain ⟨b4, eb4, h⟩ := h
  rw [eb4]
  refine W.eq (g2 := F0 m 7 ls [.ref b4]) rfl ?_
  obtain ⟨g5, h⟩ := h
  refine xr_getI (ci := 1) (C := RX1) (T := TX1) (N := 8) hx hb hL1 hown hK hh g5 (by decide) rfl 6 26 rfl rfl (by decide) (by decide) q2 (fun _ h9 => h9) dX5_last_7 ?_
  exact vx_ret (xe_i hx hb hr hlocks hbase hh hK hX hS h (Nat.le_of_ble_eq_true rfl) (Nat.le_of_ble_eq_true rfl) dX5_last_10)

set_option maxHeartbeats 4000000 in
set_option maxRecDepth 100000 in
theorem mtq_X5_last (l : Launch) (G : GG) (base : Nat) {a0 : Nat} {p1 : Int32} {p2 : Int32} {p3 : Int32} {m0 : MM} {Q : Int32 → MM → Prop} (h : wp_X5_last a0 p1 p2 p3 m0 Q (fun _ _ => False)) : Met l yX5_last wsX5_last ({ frames := 10, cells := 0, slots := 0, locals := 189 }) (va_Pc [.ref a0, .int p1, .int p2, .int p3] (SP G base m0)) (va_Qi Q (HB G base) (xA base)) 0 0 (xA base) := by
  refine Met.ofW (cc := cX5_last) (maxL := 4) (ret := (some .int)) (by decide) rfl ?_
  intro p e s m args below meth c s₁ B hml hv
  obtain ⟨rfl, hbase, hh, hK, hX⟩ := hv
  have C0 : BC p s m _ meth c G base RX5 cX5_last 4 (some .int) wsX5_last := ⟨B.exec, B.bytes, B.returns, hml, findClass_of_methodNamed B.named, atoms_spec (ws := wsX5_last) B.pre, B.notSynchronized, hK, hbase, hX⟩
  obtain ⟨hx, hb, hr, -, hown, hts, hlocks, -, -, -⟩ := id C0
  have hS : va_S (xA base) s.heap s.heap [] := va_S.rf
  have hl := lv_entry ([.ref a0, .int p1, .int p2, .int p3]) (n := 4) (Nat.le_of_ble_eq_true rfl)
  rw [lg_entry_eq]
  generalize (lg_sl ([.ref a0, .int p1, .int p2, .int p3]) ++ List.replicate (4 - (lg_sl ([.ref a0, .int p1, .int p2, .int p3])).length) Slot.unset).toArray = ls at hl ⊢
  have hl : lv_has ls 4 [(0, .ref a0), (1, .int p1), (2, .int p2), (3, .int p3)] := hl
  unfold wp_X5_last at h
  have hL1 : ∀ w ∈ u_ws RX1 TX1 8, w.before _ s = true := fun w h9 => hts w (List.mem_cons_of_mem _ (List.mem_append_left _ (List.mem_append_left _ (List.mem_append_left _ (List.mem_append_left _ (List.mem_append_left _ (List.mem_append_left _ (List.mem_append_right _ (h9)))))))))
  have q2 : (Cond.fieldLink RX5 169 "RollupStore$Rollup" "last" "I").before _ s = true := hts _ (List.mem_cons_of_mem _ (List.mem_append_left _ (List.mem_append_left _ (List.mem_append_left _ (List.mem_append_left _ (List.mem_append_left _ (List.mem_append_left _ (List.mem_append_left _ (List.mem_append_left _ (List.mem_of_getElem? (i := 0) rfl))))))))))
  refine lv_aload_n hx hb dX5_last_0 rfl (lv_at hl 0 rfl) ?_
  refine lv_iload_n hx hb dX5_last_1 rfl (lv_at hl 1 rfl) ?_
  refine lv_iload_n hx hb dX5_last_2 rfl (lv_at hl 2 rfl) ?_
  refine lv_iload_n hx hb dX5_last_3 rfl (lv_at hl 3 rfl) ?_
  obtain ⟨g1, h⟩ := h
  refine xc_q (va_runV (As := [.int p1, .int p2, .int p3]) (rest := []) ⟨hx, hb, hml, hown, hts⟩ (mtq_X5_rollupAt l G base h) (cwV 3 hts gX5_last_X5_rollupAt rfl rfl rfl (by decide +kernel) ⟨Nat.le_of_ble_eq_true rfl, Nat.le_of_ble_eq_true rfl⟩) (xp_V hbase hh hK hX hS (ci := 5) g1 (by decide) rfl) rfl rfl hl.1 rfl (lv_room (Nat.le_of_ble_eq_true rfl)) dX5_last_4 ⟨Nat.le_of_ble_eq_true rfl, Nat.le_of_ble_eq_true rfl⟩) hS (fun r2 m3 H locs h hh hS => ?_)
  obtain ⟨b4, eb4, h⟩ := h
  rw [eb4]
  refine W.eq (g2 := F0 m 7 ls [.ref b4]) rfl ?_
  obtain ⟨g5, h⟩ := h
  refine xr_getI (ci := 1) (C := RX1) (T := TX1) (N := 8) hx hb hL1 hown hK hh g5 (by decide) rfl 6 26 rfl rfl (by decide) (by decide) q2 (fun _ h9 => h9) dX5_last_7 ?_
  exact (xe_i hx hb hr hlocks hbase hh hK hX hS h (Nat.le_of_ble_eq_true rfl) (Nat.le_of_ble_eq_true rfl) dX5_last_10)

set_option maxHeartbeats 4000000 in
set_option maxRecDepth 100000 in
theorem mt_X5_horizon (l : Launch) (hl9 : l.stackTraces = false) (G : GG) (base : Nat) {a0 : Nat} {p1 : Int32} {m0 : MM} {Q : Int32 → MM → Prop} {X : Nat → MM → Prop} (h : wp_X5_horizon a0 p1 m0 Q X) : vx_Met l yX5_horizon wsX5_horizon ({ frames := 7, cells := 1, slots := 6, locals := 118 }) (va_Pc [.ref a0, .int p1] (SP G base m0)) (va_Qi Q (HB G base) (xA base)) (xX G base X) 1 6 (xA base) := by
  refine vx_ofW (cc := cX5_horizon) (maxL := 2) (ret := (some .int)) (by decide) rfl ?_
  intro p e s m args below meth c s₁ B hml hout hv
  obtain ⟨rfl, hbase, hh, hK, hX⟩ := hv
  have C0 : BC p s m _ meth c G base RX5 cX5_horizon 2 (some .int) wsX5_horizon := ⟨B.exec, B.bytes, B.returns, hml, findClass_of_methodNamed B.named, atoms_spec (ws := wsX5_horizon) B.pre, B.notSynchronized, hK, hbase, hX⟩
  obtain ⟨hx, hb, hr, -, hown, hts, hlocks, -, -, -⟩ := id C0
  have hS : va_S (xA base) s.heap s.heap [] := va_S.rf
  have hl := lv_entry ([.ref a0, .int p1]) (n := 2) (Nat.le_of_ble_eq_true rfl)
  rw [lg_entry_eq]
  generalize (lg_sl ([.ref a0, .int p1]) ++ List.replicate (2 - (lg_sl ([.ref a0, .int p1])).length) Slot.unset).toArray = ls at hl ⊢
  have hl : lv_has ls 2 [(0, .ref a0), (1, .int p1)] := hl
  unfold wp_X5_horizon at h
  have hL5 : ∀ w ∈ u_ws RX5 TX5 7, w.before _ s = true := fun w h9 => hts w (List.mem_cons_of_mem _ (List.mem_append_left _ (List.mem_append_right _ (h9))))
  have q2 : (Cond.fieldLink RX5 22 "RollupStore" "horizon" "[I").before _ s = true := hts _ (List.mem_cons_of_mem _ (List.mem_append_left _ (List.mem_append_left _ (List.mem_of_getElem? (i := 0) rfl))))
  refine lv_iload_n hx hb dX5_horizon_0 rfl (lv_at hl 1 rfl) ?_
  refine lv_iconst (v := 0) hx hb dX5_horizon_1 (by decide) ?_
  refine lv_iconst (v := 3) hx hb dX5_horizon_2 (by decide) ?_
  refine xt_v (vx_runS (As := [.int p1, .int (0 : Int32), .int (3 : Int32)]) (rest := []) ⟨hx, hb, hml, hown, hts⟩ (mt_X5_needRange l hl9 G base h) (va_cwS 3 hts gX5_horizon_X5_needRange rfl rfl rfl (by decide +kernel) ⟨Nat.le_of_ble_eq_true rfl, Nat.le_of_ble_eq_true rfl⟩) (xp_S hbase hh hK hX hS) rfl rfl hl.1 rfl (lv_room (Nat.le_of_ble_eq_true rfl)) dX5_horizon_3 ⟨Nat.le_of_ble_eq_true rfl, Nat.le_of_ble_eq_true rfl⟩) hS (fun k9 m9 H locs q9 ce h hh hS hc9 hv9 hcl9 => xe_out hout hlocks hbase hh hK hX hS h hc9 hv9 hcl9 (Nat.le_of_ble_eq_true rfl) (Nat.le_of_ble_eq_true rfl)) (fun m2 H locs h hh hS => ?_)
  refine lv_aload_n hx hb dX5_horizon_6 rfl (lv_at hl 0 rfl) ?_
  obtain ⟨g3, h⟩ := h
  obtain ⟨b4, eb4, h⟩ := h
  refine xr_getR (ci := 5) (C := RX5) (T := TX5) (N := 7) hx hb hL5 hown hK hh g3 (by decide) rfl 4 104 rfl rfl (by decide) (by decide) q2 (fun _ h9 => h9) eb4 dX5_horizon_7 ?_
  refine lv_iload_n hx hb dX5_horizon_10 rfl (lv_at hl 1 rfl) ?_
  obtain ⟨g5, h⟩ := h
  obtain ⟨g6, h⟩ := h
  refine xr_iald hx hb hK hh g5 g6 dX5_horizon_11 ?_
  exact vx_ret (xe_i hx hb hr hlocks hbase hh hK hX hS h (Nat.le_of_ble_eq_true rfl) (Nat.le_of_ble_eq_true rfl) dX5_horizon_12)

set_option maxHeartbeats 4000000 in
set_option maxRecDepth 100000 in
theorem mtq_X5_horizon (l : Launch) (G : GG) (base : Nat) {a0 : Nat} {p1 : Int32} {m0 : MM} {Q : Int32 → MM → Prop} (h : wp_X5_horizon a0 p1 m0 Q (fun _ _ => False)) : Met l yX5_horizon wsX5_horizon ({ frames := 7, cells := 0, slots := 0, locals := 118 }) (va_Pc [.ref a0, .int p1] (SP G base m0)) (va_Qi Q (HB G base) (xA base)) 0 0 (xA base) := by
  refine Met.ofW (cc := cX5_horizon) (maxL := 2) (ret := (some .int)) (by decide) rfl ?_
  intro p e s m args below meth c s₁ B hml hv
  obtain ⟨rfl, hbase, hh, hK, hX⟩ := hv
  have C0 : BC p s m _ meth c G base RX5 cX5_horizon 2 (some .int) wsX5_horizon := ⟨B.exec, B.bytes, B.returns, hml, findClass_of_methodNamed B.named, atoms_spec (ws := wsX5_horizon) B.pre, B.notSynchronized, hK, hbase, hX⟩
  obtain ⟨hx, hb, hr, -, hown, hts, hlocks, -, -, -⟩ := id C0
  have hS : va_S (xA base) s.heap s.heap [] := va_S.rf
  have hl := lv_entry ([.ref a0, .int p1]) (n := 2) (Nat.le_of_ble_eq_true rfl)
  rw [lg_entry_eq]
  generalize (lg_sl ([.ref a0, .int p1]) ++ List.replicate (2 - (lg_sl ([.ref a0, .int p1])).length) Slot.unset).toArray = ls at hl ⊢
  have hl : lv_has ls 2 [(0, .ref a0), (1, .int p1)] := hl
  unfold wp_X5_horizon at h
  have hL5 : ∀ w ∈ u_ws RX5 TX5 7, w.before _ s = true := fun w h9 => hts w (List.mem_cons_of_mem _ (List.mem_append_left _ (List.mem_append_right _ (h9))))
  have q2 : (Cond.fieldLink RX5 22 "RollupStore" "horizon" "[I").before _ s = true := hts _ (List.mem_cons_of_mem _ (List.mem_append_left _ (List.mem_append_left _ (List.mem_of_getElem? (i := 0) rfl))))
  refine lv_iload_n hx hb dX5_horizon_0 rfl (lv_at hl 1 rfl) ?_
  refine lv_iconst (v := 0) hx hb dX5_horizon_1 (by decide) ?_
  refine lv_iconst (v := 3) hx hb dX5_horizon_2 (by decide) ?_
  refine xc_v (va_runS (As := [.int p1, .int (0 : Int32), .int (3 : Int32)]) (rest := []) ⟨hx, hb, hml, hown, hts⟩ (mtq_X5_needRange l G base h) (va_cwS 3 hts gX5_horizon_X5_needRange rfl rfl rfl (by decide +kernel) ⟨Nat.le_of_ble_eq_true rfl, Nat.le_of_ble_eq_true rfl⟩) (xp_S hbase hh hK hX hS) rfl rfl hl.1 rfl (lv_room (Nat.le_of_ble_eq_true rfl)) dX5_horizon_3 ⟨Nat.le_of_ble_eq_true rfl, Nat.le_of_ble_eq_true rfl⟩) hS (fun m2 H locs h hh hS => ?_)
  refine lv_aload_n hx hb dX5_horizon_6 rfl (lv_at hl 0 rfl) ?_
  obtain ⟨g3, h⟩ := h
  obtain ⟨b4, eb4, h⟩ := h
  refine xr_getR (ci := 5) (C := RX5) (T := TX5) (N := 7) hx hb hL5 hown hK hh g3 (by decide) rfl 4 104 rfl rfl (by decide) (by decide) q2 (fun _ h9 => h9) eb4 dX5_horizon_7 ?_
  refine lv_iload_n hx hb dX5_horizon_10 rfl (lv_at hl 1 rfl) ?_
  obtain ⟨g5, h⟩ := h
  obtain ⟨g6, h⟩ := h
  refine xr_iald hx hb hK hh g5 g6 dX5_horizon_11 ?_
  exact (xe_i hx hb hr hlocks hbase hh hK hX hS h (Nat.le_of_ble_eq_true rfl) (Nat.le_of_ble_eq_true rfl) dX5_horizon_12)

set_option maxHeartbeats 4000000 in
set_option maxRecDepth 100000 in
theorem mt_X4_cutHours (l : Launch) (G : GG) (base : Nat) {a0 : Nat} {p1 : Int32} {p2 : Int32} {m0 : MM} {Q : MM → Prop} (h : wp_X4_cutHours a0 p1 p2 m0 Q) : Met l yX4_cutHours wsX4_cutHours ({ frames := 0, cells := 0, slots := 0, locals := 8 }) (va_Pc [.ref a0, .int p1, .int p2] (SP G base m0)) (va_Qv Q (HB G base) (xA base)) 0 0 (xA base) := by
  refine Met.ofW (cc := cX4_cutHours) (maxL := 3) (ret := none) (by decide) rfl ?_
  intro p e s m args below meth c s₁ B hml hv
  obtain ⟨rfl, hbase, hh, hK, hX⟩ := hv
  have C0 : BC p s m _ meth c G base RX4 cX4_cutHours 3 none wsX4_cutHours := ⟨B.exec, B.bytes, B.returns, hml, findClass_of_methodNamed B.named, atoms_spec (ws := wsX4_cutHours) B.pre, B.notSynchronized, hK, hbase, hX⟩
  obtain ⟨hx, hb, hr, -, hown, hts, hlocks, -, -, -⟩ := id C0
  have hS : va_S (xA base) s.heap s.heap [] := va_S.rf
  have hl := lv_entry ([.ref a0, .int p1, .int p2]) (n := 3) (Nat.le_of_ble_eq_true rfl)
  rw [lg_entry_eq]
  generalize (lg_sl ([.ref a0, .int p1, .int p2]) ++ List.replicate (3 - (lg_sl ([.ref a0, .int p1, .int p2])).length) Slot.unset).toArray = ls at hl ⊢
  have hl : lv_has ls 3 [(0, .ref a0), (1, .int p1), (2, .int p2)] := hl
  unfold wp_X4_cutHours at h
  have hL4 : ∀ w ∈ u_ws RX4 TX4 6, w.before _ s = true := fun w h9 => hts w (List.mem_cons_of_mem _ (List.mem_append_right _ (h9)))
  have q2 : (Cond.fieldLink RX4 33 "RollupStore$Window" "hoursFrom" "I").before _ s = true := hts _ (List.mem_cons_of_mem _ (List.mem_append_left _ (List.mem_of_getElem? (i := 0) rfl)))
  have q3 : (Cond.fieldLink RX4 27 "RollupStore$Window" "daysFrom" "I").before _ s = true := hts _ (List.mem_cons_of_mem _ (List.mem_append_left _ (List.mem_of_getElem? (i := 1) rfl)))
  have q4 : (Cond.fieldLink RX4 30 "RollupStore$Window" "daysTo" "I").before _ s = true := hts _ (List.mem_cons_of_mem _ (List.mem_append_left _ (List.mem_of_getElem? (i := 2) rfl)))
  have q5 : (Cond.fieldLink RX4 36 "RollupStore$Window" "hoursTo" "I").before _ s = true := hts _ (List.mem_cons_of_mem _ (List.mem_append_left _ (List.mem_of_getElem? (i := 3) rfl)))
  refine lv_aload_n hx hb dX4_cutHours_0 rfl (lv_at hl 0 rfl) ?_
  refine lv_iload_n hx hb dX4_cutHours_1 rfl (lv_at hl 1 rfl) ?_
  obtain ⟨g1, h⟩ := h
  refine xr_putI (ci := 4) (C := RX4) (T := TX4) (N := 6) hx hb hL4 hown hK hh g1 (by decide) rfl 1 81 rfl rfl (by decide) (by decide) q2 (fun _ h9 => h9) tyX4 tyX4_ok nmX4 rfl rfl rfl hS dX4_cutHours_2 (fun H locs hh hS => ?_)
  obtain ⟨m2, em2⟩ : ∃ z : MM, z = sI m0 81 a0 p1 := ⟨_, rfl⟩
  rw [← em2] at hh
  replace h := h m2 em2
  refine lv_aload_n hx hb dX4_cutHours_5 rfl (lv_at hl 0 rfl) ?_
  refine lv_iload_n hx hb dX4_cutHours_6 rfl (lv_at hl 2 rfl) ?_
  obtain ⟨g3, h⟩ := h
  refine xr_putI (ci := 4) (C := RX4) (T := TX4) (N := 6) hx hb hL4 hown hK hh g3 (by decide) rfl 2 82 rfl rfl (by decide) (by decide) q3 (fun _ h9 => h9) tyX4 tyX4_ok nmX4 rfl rfl rfl hS dX4_cutHours_7 (fun H locs hh hS => ?_)
  obtain ⟨m4, em4⟩ : ∃ z : MM, z = sI m2 82 a0 p2 := ⟨_, rfl⟩
  rw [← em4] at hh
  replace h := h m4 em4
  refine lv_aload_n hx hb dX4_cutHours_10 rfl (lv_at hl 0 rfl) ?_
  refine lv_iload_n hx hb dX4_cutHours_11 rfl (lv_at hl 2 rfl) ?_
  obtain ⟨g5, h⟩ := h
  refine xr_putI (ci := 4) (C := RX4) (T := TX4) (N := 6) hx hb hL4 hown hK hh g5 (by decide) rfl 3 83 rfl rfl (by decide) (by decide) q4 (fun _ h9 => h9) tyX4 tyX4_ok nmX4 rfl rfl rfl hS dX4_cutHours_12 (fun H locs hh hS => ?_)
  obtain ⟨m6, em6⟩ : ∃ z : MM, z = sI m4 83 a0 p2 := ⟨_, rfl⟩
  rw [← em6] at hh
  replace h := h m6 em6
  refine lv_aload_n hx hb dX4_cutHours_15 rfl (lv_at hl 0 rfl) ?_
  refine lv_iload_n hx hb dX4_cutHours_16 rfl (lv_at hl 2 rfl) ?_
  obtain ⟨g7, h⟩ := h
  refine xr_putI (ci := 4) (C := RX4) (T := TX4) (N := 6) hx hb hL4 hown hK hh g7 (by decide) rfl 4 84 rfl rfl (by decide) (by decide) q5 (fun _ h9 => h9) tyX4 tyX4_ok nmX4 rfl rfl rfl hS dX4_cutHours_17 (fun H locs hh hS => ?_)
  obtain ⟨m8, em8⟩ : ∃ z : MM, z = sI m6 84 a0 p2 := ⟨_, rfl⟩
  rw [← em8] at hh
  replace h := h m8 em8
  exact (xe_v hx hb hr hlocks hbase hh hK hX hS h (Nat.le_of_ble_eq_true rfl) (Nat.le_of_ble_eq_true rfl) dX4_cutHours_20)

set_option maxHeartbeats 4000000 in
set_option maxRecDepth 100000 in
theorem mt_X4_roundUp (l : Launch) (G : GG) (base : Nat) {p1 : Int32} {p2 : Int32} {m0 : MM} {Q : Int64 → MM → Prop} (h : wp_X4_roundUp p1 p2 m0 Q) : Met l yX4_roundUp wsX4_roundUp ({ frames := 0, cells := 0, slots := 0, locals := 8 }) (va_Pc [.int p1, .int p2] (SP G base m0)) (va_Ql Q (HB G base) (xA base)) 0 0 (xA base) := by
  refine Met.ofW (cc := cX4_roundUp) (maxL := 4) (ret := (some .long)) (by decide) rfl ?_
  intro p e s m args below meth c s₁ B hml hv
  obtain ⟨rfl, hbase, hh, hK, hX⟩ := hv
  have C0 : BC p s m _ meth c G base RX4 cX4_roundUp 4 (some .long) wsX4_roundUp := ⟨B.exec, B.bytes, B.returns, hml, findClass_of_methodNamed B.named, atoms_spec (ws := wsX4_roundUp) B.pre, B.notSynchronized, hK, hbase, hX⟩
  obtain ⟨hx, hb, hr, -, hown, hts, hlocks, -, -, -⟩ := id C0
  have hS : va_S (xA base) s.heap s.heap [] := va_S.rf
  have hl := lv_entry ([.int p1, .int p2]) (n := 4) (Nat.le_of_ble_eq_true rfl)
  rw [lg_entry_eq]
  generalize (lg_sl ([.int p1, .int p2]) ++ List.replicate (4 - (lg_sl ([.int p1, .int p2])).length) Slot.unset).toArray = ls at hl ⊢
  have hl : lv_has ls 4 [(0, .int p1), (1, .int p2)] := hl
  unfold wp_X4_roundUp at h
  refine lv_iload_n hx hb dX4_roundUp_0 rfl (lv_at hl 0 rfl) ?_
  refine lv_i2l hx hb dX4_roundUp_1 rfl ?_
  refine lv_iload_n hx hb dX4_roundUp_2 rfl (lv_at hl 1 rfl) ?_
  refine lv_i2l hx hb dX4_roundUp_3 rfl ?_
  refine lv_ladd hx hb dX4_roundUp_4 ?_
  refine lv_lconst (v := 1) hx hb dX4_roundUp_5 (by decide) ?_
  refine lv_lsub hx hb dX4_roundUp_6 ?_
  refine lv_topl (fun x1 ex1 => ?_)
  replace h := h x1 ex1
  refine lv_lstore_n (lv' := [(2, .long x1), (0, .int p1), (1, .int p2)]) hx hb dX4_roundUp_7 rfl hl (by decide) rfl (fun ls hl => ?_)
  refine lv_iload_n hx hb dX4_roundUp_8 rfl (lv_at hl 2 rfl) ?_
  refine lv_iconst (v := 1) hx hb dX4_roundUp_9 (by decide) ?_
  refine lv_icmp_ge (tgt := 18) hx hb dX4_roundUp_10 (by decide) (fun c2 => ?_) (fun c2 => ?_)
  · replace h := h.1 c2
    refine lv_lload_n hx hb dX4_roundUp_18 rfl (lv_at hl 0 rfl) ?_
    refine lv_lload_n hx hb dX4_roundUp_19 rfl (lv_at hl 0 rfl) ?_
    refine lv_iload_n hx hb dX4_roundUp_20 rfl (lv_at hl 2 rfl) ?_
    refine lv_i2l hx hb dX4_roundUp_21 rfl ?_
    obtain ⟨g3, h⟩ := h
    refine lv_lrem hx hb dX4_roundUp_22 g3 ?_
    refine lv_lsub hx hb dX4_roundUp_23 ?_
    exact (xe_l hx hb hr hlocks hbase hh hK hX hS h (Nat.le_of_ble_eq_true rfl) (Nat.le_of_ble_eq_true rfl) dX4_roundUp_24)
  · replace h := h.2 c2
    refine lv_iload_n hx hb dX4_roundUp_13 rfl (lv_at hl 1 rfl) ?_
    refine lv_i2l hx hb dX4_roundUp_14 rfl ?_
    refine lv_goto (tgt := 24) hx hb dX4_roundUp_15 (by decide) ?_
    exact (xe_l hx hb hr hlocks hbase hh hK hX hS h (Nat.le_of_ble_eq_true rfl) (Nat.le_of_ble_eq_true rfl) dX4_roundUp_24)

set_option maxHeartbeats 4000000 in
set_option maxRecDepth 100000 in
theorem mt_X4_cut (l : Launch) (G : GG) (base : Nat) {a0 : Nat} {p1 : Int32} {p2 : Int32} {m0 : MM} {Q : MM → Prop} (h : wp_X4_cut a0 p1 p2 m0 Q) : Met l yX4_cut wsX4_cut ({ frames := 1, cells := 0, slots := 0, locals := 31 }) (va_Pc [.ref a0, .int p1, .int p2] (SP G base m0)) (va_Qv Q (HB G base) (xA base)) 0 0 (xA base) := by
  refine Met.ofW (cc := cX4_cut) (maxL := 9) (ret := none) (by decide) rfl ?_
  intro p e s m args below meth c s₁ B hml hv
  obtain ⟨rfl, hbase, hh, hK, hX⟩ := hv
  have C0 : BC p s m _ meth c G base RX4 cX4_cut 9 none wsX4_cut := ⟨B.exec, B.bytes, B.returns, hml, findClass_of_methodNamed B.named, atoms_spec (ws := wsX4_cut) B.pre, B.notSynchronized, hK, hbase, hX⟩
  obtain ⟨hx, hb, hr, -, hown, hts, hlocks, -, -, -⟩ := id C0
  have hS : va_S (xA base) s.heap s.heap [] := va_S.rf
  have hl := lv_entry ([.ref a0, .int p1, .int p2]) (n := 9) (Nat.le_of_ble_eq_true rfl)
  rw [lg_entry_eq]
  generalize (lg_sl ([.ref a0, .int p1, .int p2]) ++ List.replicate (9 - (lg_sl ([.ref a0, .int p1, .int p2])).length) Slot.unset).toArray = ls at hl ⊢
  have hl : lv_has ls 9 [(0, .ref a0), (1, .int p1), (2, .int p2)] := hl
  unfold wp_X4_cut at h
  have hL4 : ∀ w ∈ u_ws RX4 TX4 6, w.before _ s = true := fun w h9 => hts w (List.mem_cons_of_mem _ (List.mem_append_right _ (h9)))
  have q2 : (Cond.fieldLink RX4 9 "RollupStore$Window" "from" "I").before _ s = true := hts _ (List.mem_cons_of_mem _ (List.mem_append_left _ (List.mem_of_getElem? (i := 0) rfl)))
  have q3 : (Cond.fieldLink RX4 15 "RollupStore$Window" "to" "I").before _ s = true := hts _ (List.mem_cons_of_mem _ (List.mem_append_left _ (List.mem_of_getElem? (i := 1) rfl)))
  have q4 : (Cond.constant RX4 26 (86400)).before _ s = true := hts _ (List.mem_cons_of_mem _ (List.mem_append_left _ (List.mem_of_getElem? (i := 2) rfl)))
  have q5 : (Cond.fieldLink RX4 27 "RollupStore$Window" "daysFrom" "I").before _ s = true := hts _ (List.mem_cons_of_mem _ (List.mem_append_left _ (List.mem_of_getElem? (i := 3) rfl)))
  have q6 : (Cond.fieldLink RX4 30 "RollupStore$Window" "daysTo" "I").before _ s = true := hts _ (List.mem_cons_of_mem _ (List.mem_append_left _ (List.mem_of_getElem? (i := 4) rfl)))
  refine lv_aload_n hx hb dX4_cut_0 rfl (lv_at hl 0 rfl) ?_
  refine lv_iload_n hx hb dX4_cut_1 rfl (lv_at hl 1 rfl) ?_
  obtain ⟨g1, h⟩ := h
  refine xr_putI (ci := 4) (C := RX4) (T := TX4) (N := 6) hx hb hL4 hown hK hh g1 (by decide) rfl 0 80 rfl rfl (by decide) (by decide) q2 (fun _ h9 => h9) tyX4 tyX4_ok nmX4 rfl rfl rfl hS dX4_cut_2 (fun H locs hh hS => ?_)
  obtain ⟨m2, em2⟩ : ∃ z : MM, z = sI m0 80 a0 p1 := ⟨_, rfl⟩
  rw [← em2] at hh
  replace h := h m2 em2
  refine lv_aload_n hx hb dX4_cut_5 rfl (lv_at hl 0 rfl) ?_
  refine lv_iload_n hx hb dX4_cut_6 rfl (lv_at hl 2 rfl) ?_
  obtain ⟨g3, h⟩ := h
  refine xr_putI (ci := 4) (C := RX4) (T := TX4) (N := 6) hx hb hL4 hown hK hh g3 (by decide) rfl 5 85 rfl rfl (by decide) (by decide) q3 (fun _ h9 => h9) tyX4 tyX4_ok nmX4 rfl rfl rfl hS dX4_cut_7 (fun H locs hh hS => ?_)
  obtain ⟨m4, em4⟩ : ∃ z : MM, z = sI m2 85 a0 p2 := ⟨_, rfl⟩
  rw [← em4] at hh
  replace h := h m4 em4
  refine lv_aload_n hx hb dX4_cut_10 rfl (lv_at hl 0 rfl) ?_
  refine lv_aload_n hx hb dX4_cut_11 rfl (lv_at hl 0 rfl) ?_
  obtain ⟨g5, h⟩ := h
  refine xr_getI (ci := 4) (C := RX4) (T := TX4) (N := 6) hx hb hL4 hown hK hh g5 (by decide) rfl 5 85 rfl rfl (by decide) (by decide) q3 (fun _ h9 => h9) dX4_cut_12 ?_
  refine lv_aload_n hx hb dX4_cut_15 rfl (lv_at hl 0 rfl) ?_
  obtain ⟨g6, h⟩ := h
  refine xr_getI (ci := 4) (C := RX4) (T := TX4) (N := 6) hx hb hL4 hown hK hh g6 (by decide) rfl 5 85 rfl rfl (by decide) (by decide) q3 (fun _ h9 => h9) dX4_cut_16 ?_
  obtain ⟨g7, h⟩ := h
  refine xc_v (va_runV (As := [.int (mI m4 85 a0), .int (mI m4 85 a0)]) (rest := []) ⟨hx, hb, hml, hown, hts⟩ (mt_X4_cutHours l G base h) (cwV 2 hts gX4_cut_X4_cutHours rfl rfl rfl (by decide +kernel) ⟨Nat.le_of_ble_eq_true rfl, Nat.le_of_ble_eq_true rfl⟩) (xp_V hbase hh hK hX hS (ci := 4) g7 (by decide) rfl) rfl rfl hl.1 rfl (lv_room (Nat.le_of_ble_eq_true rfl)) dX4_cut_19 ⟨Nat.le_of_ble_eq_true rfl, Nat.le_of_ble_eq_true rfl⟩) hS (fun m9 H locs h hh hS => ?_)
  refine lv_aload_n hx hb dX4_cut_22 rfl (lv_at hl 0 rfl) ?_
  obtain ⟨g10, h⟩ := h
  refine xr_getI (ci := 4) (C := RX4) (T := TX4) (N := 6) hx hb hL4 hown hK hh g10 (by decide) rfl 0 80 rfl rfl (by decide) (by decide) q2 (fun _ h9 => h9) dX4_cut_23 ?_
  refine lv_sipush (v := 3600) hx hb dX4_cut_26 (by decide) ?_
  refine xc_l (va_runS (As := [.int (mI m9 80 a0), .int (3600 : Int32)]) (rest := []) ⟨hx, hb, hml, hown, hts⟩ (mt_X4_roundUp l G base h) (va_cwS 2 hts gX4_cut_X4_roundUp rfl rfl rfl (by decide +kernel) ⟨Nat.le_of_ble_eq_true rfl, Nat.le_of_ble_eq_true rfl⟩) (xp_S hbase hh hK hX hS) rfl rfl hl.1 rfl (lv_room (Nat.le_of_ble_eq_true rfl)) dX4_cut_29 ⟨Nat.le_of_ble_eq_true rfl, Nat.le_of_ble_eq_true rfl⟩) hS (fun r11 m12 H locs h hh hS => ?_)
  refine lv_lstore_n (lv' := [(3, .long r11), (0, .ref a0), (1, .int p1), (2, .int p2)]) hx hb dX4_cut_32 rfl hl (by decide) rfl (fun ls hl => ?_)
  refine lv_aload_n hx hb dX4_cut_33 rfl (lv_at hl 1 rfl) ?_
  obtain ⟨g13, h⟩ := h
  refine xr_getI (ci := 4) (C := RX4) (T := TX4) (N := 6) hx hb hL4 hown hK hh g13 (by decide) rfl 5 85 rfl rfl (by decide) (by decide) q3 (fun _ h9 => h9) dX4_cut_34 ?_
  refine lv_aload_n hx hb dX4_cut_37 rfl (lv_at hl 1 rfl) ?_
  obtain ⟨g14, h⟩ := h
  refine xr_getI (ci := 4) (C := RX4) (T := TX4) (N := 6) hx hb hL4 hown hK hh g14 (by decide) rfl 5 85 rfl rfl (by decide) (by decide) q3 (fun _ h9 => h9) dX4_cut_38 ?_
  refine lv_sipush (v := 3600) hx hb dX4_cut_41 (by decide) ?_
  refine lv_irem hx hb dX4_cut_44 (by decide) ?_
  refine lv_isub hx hb dX4_cut_45 ?_
  refine lv_topi (fun x15 ex15 => ?_)
  replace h := h x15 ex15
  refine lv_istore (lv' := [(5, .int x15), (3, .long r11), (0, .ref a0), (1, .int p1), (2, .int p2)]) hx hb dX4_cut_46 hl (by decide) rfl (fun ls hl => ?_)
  refine lv_lload_n hx hb dX4_cut_48 rfl (lv_at hl 1 rfl) ?_
  refine lv_iload hx hb dX4_cut_49 (lv_at hl 0 rfl) ?_
  refine lv_i2l hx hb dX4_cut_51 rfl ?_
  refine W.lcmp hx hb dX4_cut_52 ?_
  refine lv_if_lt (tgt := 57) hx hb dX4_cut_53 (by decide) (fun c16 => ?_) (fun c16 => ?_)
  · replace h := h.1 c16
    refine lv_aload_n hx hb dX4_cut_57 rfl (lv_at hl 2 rfl) ?_
    refine lv_lload_n hx hb dX4_cut_58 rfl (lv_at hl 1 rfl) ?_
    refine lv_l2i hx hb dX4_cut_59 rfl ?_
    refine lv_iload hx hb dX4_cut_60 (lv_at hl 0 rfl) ?_
    obtain ⟨g17, h⟩ := h
    refine xc_v (va_runV (As := [.int r11.toInt32, .int x15]) (rest := []) ⟨hx, hb, hml, hown, hts⟩ (mt_X4_cutHours l G base h) (cwV 2 hts gX4_cut_X4_cutHours rfl rfl rfl (by decide +kernel) ⟨Nat.le_of_ble_eq_true rfl, Nat.le_of_ble_eq_true rfl⟩) (xp_V hbase hh hK hX hS (ci := 4) g17 (by decide) rfl) rfl rfl hl.1 rfl (lv_room (Nat.le_of_ble_eq_true rfl)) dX4_cut_62 ⟨Nat.le_of_ble_eq_true rfl, Nat.le_of_ble_eq_true rfl⟩) hS (fun m19 H locs h hh hS => ?_)
    refine lv_aload_n hx hb dX4_cut_65 rfl (lv_at hl 2 rfl) ?_
    obtain ⟨g20, h⟩ := h
    refine xr_getI (ci := 4) (C := RX4) (T := TX4) (N := 6) hx hb hL4 hown hK hh g20 (by decide) rfl 0 80 rfl rfl (by decide) (by decide) q2 (fun _ h9 => h9) dX4_cut_66 ?_
    refine lv_ldc hx hb hown q4 dX4_cut_69 ?_
    refine xc_l (va_runS (As := [.int (mI m19 80 a0), .int (86400 : Int32)]) (rest := []) ⟨hx, hb, hml, hown, hts⟩ (mt_X4_roundUp l G base h) (va_cwS 2 hts gX4_cut_X4_roundUp rfl rfl rfl (by decide +kernel) ⟨Nat.le_of_ble_eq_true rfl, Nat.le_of_ble_eq_true rfl⟩) (xp_S hbase hh hK hX hS) rfl rfl hl.1 rfl (lv_room (Nat.le_of_ble_eq_true rfl)) dX4_cut_71 ⟨Nat.le_of_ble_eq_true rfl, Nat.le_of_ble_eq_true rfl⟩) hS (fun r21 m22 H locs h hh hS => ?_)
    refine lv_lstore (lv' := [(6, .long r21), (5, .int x15), (3, .long r11), (0, .ref a0), (1, .int p1), (2, .int p2)]) hx hb dX4_cut_74 hl (by decide) rfl (fun ls hl => ?_)
    refine lv_aload_n hx hb dX4_cut_76 rfl (lv_at hl 3 rfl) ?_
    obtain ⟨g23, h⟩ := h
    refine xr_getI (ci := 4) (C := RX4) (T := TX4) (N := 6) hx hb hL4 hown hK hh g23 (by decide) rfl 5 85 rfl rfl (by decide) (by decide) q3 (fun _ h9 => h9) dX4_cut_77 ?_
    refine lv_aload_n hx hb dX4_cut_80 rfl (lv_at hl 3 rfl) ?_
    obtain ⟨g24, h⟩ := h
    refine xr_getI (ci := 4) (C := RX4) (T := TX4) (N := 6) hx hb hL4 hown hK hh g24 (by decide) rfl 5 85 rfl rfl (by decide) (by decide) q3 (fun _ h9 => h9) dX4_cut_81 ?_
    refine lv_ldc hx hb hown q4 dX4_cut_84 ?_
    refine lv_irem hx hb dX4_cut_86 (by decide) ?_
    refine lv_isub hx hb dX4_cut_87 ?_
    refine lv_topi (fun x25 ex25 => ?_)
    replace h := h x25 ex25
    refine lv_istore (lv' := [(8, .int x25), (6, .long r21), (5, .int x15), (3, .long r11), (0, .ref a0), (1, .int p1), (2, .int p2)]) hx hb dX4_cut_88 hl (by decide) rfl (fun ls hl => ?_)
    refine lv_lload hx hb dX4_cut_90 (lv_at hl 1 rfl) ?_
    refine lv_iload hx hb dX4_cut_92 (lv_at hl 0 rfl) ?_
    refine lv_i2l hx hb dX4_cut_94 rfl ?_
    refine W.lcmp hx hb dX4_cut_95 ?_
    refine lv_if_ge (tgt := 112) hx hb dX4_cut_96 (by decide) (fun c26 => ?_) (fun c26 => ?_)
    · replace h := h.1 c26
      exact (xe_v hx hb hr hlocks hbase hh hK hX hS h (Nat.le_of_ble_eq_true rfl) (Nat.le_of_ble_eq_true rfl) dX4_cut_112)
    · replace h := h.2 c26
      refine lv_aload_n hx hb dX4_cut_99 rfl (lv_at hl 4 rfl) ?_
      refine lv_lload hx hb dX4_cut_100 (lv_at hl 1 rfl) ?_
      refine lv_l2i hx hb dX4_cut_102 rfl ?_
      obtain ⟨g27, h⟩ := h
      refine xr_putI (ci := 4) (C := RX4) (T := TX4) (N := 6) hx hb hL4 hown hK hh g27 (by decide) rfl 2 82 rfl rfl (by decide) (by decide) q5 (fun _ h9 => h9) tyX4 tyX4_ok nmX4 rfl rfl rfl hS dX4_cut_103 (fun H locs hh hS => ?_)
      obtain ⟨m28, em28⟩ : ∃ z : MM, z = sI m22 82 a0 r21.toInt32 := ⟨_, rfl⟩
      rw [← em28] at hh
      replace h := h m28 em28
      refine lv_aload_n hx hb dX4_cut_106 rfl (lv_at hl 4 rfl) ?_
      refine lv_iload hx hb dX4_cut_107 (lv_at hl 0 rfl) ?_
      obtain ⟨g29, h⟩ := h
      refine xr_putI (ci := 4) (C := RX4) (T := TX4) (N := 6) hx hb hL4 hown hK hh g29 (by decide) rfl 3 83 rfl rfl (by decide) (by decide) q6 (fun _ h9 => h9) tyX4 tyX4_ok nmX4 rfl rfl rfl hS dX4_cut_109 (fun H locs hh hS => ?_)
      obtain ⟨m30, em30⟩ : ∃ z : MM, z = sI m28 83 a0 x25 := ⟨_, rfl⟩
      rw [← em30] at hh
      replace h := h m30 em30
      exact (xe_v hx hb hr hlocks hbase hh hK hX hS h (Nat.le_of_ble_eq_true rfl) (Nat.le_of_ble_eq_true rfl) dX4_cut_112)
  · replace h := h.2 c16
    exact (xe_v hx hb hr hlocks hbase hh hK hX hS h (Nat.le_of_ble_eq_true rfl) (Nat.le_of_ble_eq_true rfl) dX4_cut_56)

set_option maxHeartbeats 4000000 in
set_option maxRecDepth 100000 in
theorem mt_X4_countParts (l : Launch) (G : GG) (base : Nat) {a0 : Nat} {m0 : MM} {Q : Int32 → MM → Prop} (h : wp_X4_countParts a0 m0 Q) : Met l yX4_countParts wsX4_countParts ({ frames := 0, cells := 0, slots := 0, locals := 8 }) (va_Pc [.ref a0] (SP G base m0)) (va_Qi Q (HB G base) (xA base)) 0 0 (xA base) := by
  refine Met.ofW (cc := cX4_countParts) (maxL := 3) (ret := (some .int)) (by decide) rfl ?_
  intro p e s m args below meth c s₁ B hml hv
  obtain ⟨rfl, hbase, hh, hK, hX⟩ := hv
  have C0 : BC p s m _ meth c G base RX4 cX4_countParts 3 (some .int) wsX4_countParts := ⟨B.exec, B.bytes, B.returns, hml, findClass_of_methodNamed B.named, atoms_spec (ws := wsX4_countParts) B.pre, B.notSynchronized, hK, hbase, hX⟩
  obtain ⟨hx, hb, hr, -, hown, hts, hlocks, -, -, -⟩ := id C0
  have hS : va_S (xA base) s.heap s.heap [] := va_S.rf
  have hl := lv_entry ([.ref a0]) (n := 3) (Nat.le_of_ble_eq_true rfl)
  rw [lg_entry_eq]
  generalize (lg_sl ([.ref a0]) ++ List.replicate (3 - (lg_sl ([.ref a0])).length) Slot.unset).toArray = ls at hl ⊢
  have hl : lv_has ls 3 [(0, .ref a0)] := hl
  unfold wp_X4_countParts at h
  have hL4 : ∀ w ∈ u_ws RX4 TX4 6, w.before _ s = true := fun w h9 => hts w (List.mem_cons_of_mem _ (List.mem_append_right _ (h9)))
  have q2 : (Cond.fieldLink RX4 33 "RollupStore$Window" "hoursFrom" "I").before _ s = true := hts _ (List.mem_cons_of_mem _ (List.mem_append_left _ (List.mem_of_getElem? (i := 0) rfl)))
  have q3 : (Cond.fieldLink RX4 9 "RollupStore$Window" "from" "I").before _ s = true := hts _ (List.mem_cons_of_mem _ (List.mem_append_left _ (List.mem_of_getElem? (i := 1) rfl)))
  have q4 : (Cond.fieldLink RX4 15 "RollupStore$Window" "to" "I").before _ s = true := hts _ (List.mem_cons_of_mem _ (List.mem_append_left _ (List.mem_of_getElem? (i := 2) rfl)))
  have q5 : (Cond.fieldLink RX4 36 "RollupStore$Window" "hoursTo" "I").before _ s = true := hts _ (List.mem_cons_of_mem _ (List.mem_append_left _ (List.mem_of_getElem? (i := 3) rfl)))
  have q6 : (Cond.fieldLink RX4 27 "RollupStore$Window" "daysFrom" "I").before _ s = true := hts _ (List.mem_cons_of_mem _ (List.mem_append_left _ (List.mem_of_getElem? (i := 4) rfl)))
  have q7 : (Cond.fieldLink RX4 30 "RollupStore$Window" "daysTo" "I").before _ s = true := hts _ (List.mem_cons_of_mem _ (List.mem_append_left _ (List.mem_of_getElem? (i := 5) rfl)))
  have q8 : (Cond.constant RX4 26 (86400)).before _ s = true := hts _ (List.mem_cons_of_mem _ (List.mem_append_left _ (List.mem_of_getElem? (i := 6) rfl)))
  refine lv_aload_n hx hb dX4_countParts_0 rfl (lv_at hl 0 rfl) ?_
  obtain ⟨g1, h⟩ := h
  refine xr_getI (ci := 4) (C := RX4) (T := TX4) (N := 6) hx hb hL4 hown hK hh g1 (by decide) rfl 1 81 rfl rfl (by decide) (by decide) q2 (fun _ h9 => h9) dX4_countParts_1 ?_
  refine lv_aload_n hx hb dX4_countParts_4 rfl (lv_at hl 0 rfl) ?_
  obtain ⟨g2, h⟩ := h
  refine xr_getI (ci := 4) (C := RX4) (T := TX4) (N := 6) hx hb hL4 hown hK hh g2 (by decide) rfl 0 80 rfl rfl (by decide) (by decide) q3 (fun _ h9 => h9) dX4_countParts_5 ?_
  refine lv_isub hx hb dX4_countParts_8 ?_
  refine lv_bipush (v := 60) hx hb dX4_countParts_9 (by decide) ?_
  refine lv_idiv hx hb dX4_countParts_11 (by decide) ?_
  refine lv_aload_n hx hb dX4_countParts_12 rfl (lv_at hl 0 rfl) ?_
  obtain ⟨g3, h⟩ := h
  refine xr_getI (ci := 4) (C := RX4) (T := TX4) (N := 6) hx hb hL4 hown hK hh g3 (by decide) rfl 5 85 rfl rfl (by decide) (by decide) q4 (fun _ h9 => h9) dX4_countParts_13 ?_
  refine lv_aload_n hx hb dX4_countParts_16 rfl (lv_at hl 0 rfl) ?_
  obtain ⟨g4, h⟩ := h
  refine xr_getI (ci := 4) (C := RX4) (T := TX4) (N := 6) hx hb hL4 hown hK hh g4 (by decide) rfl 4 84 rfl rfl (by decide) (by decide) q5 (fun _ h9 => h9) dX4_countParts_17 ?_
  refine lv_isub hx hb dX4_countParts_20 ?_
  refine lv_bipush (v := 60) hx hb dX4_countParts_21 (by decide) ?_
  refine lv_idiv hx hb dX4_countParts_23 (by decide) ?_
  refine lv_iadd hx hb dX4_countParts_24 ?_
  refine lv_topi (fun x5 ex5 => ?_)
  replace h := h x5 ex5
  refine lv_istore_n (lv' := [(1, .int x5), (0, .ref a0)]) hx hb dX4_countParts_25 rfl hl (by decide) rfl (fun ls hl => ?_)
  refine lv_aload_n hx hb dX4_countParts_26 rfl (lv_at hl 1 rfl) ?_
  obtain ⟨g6, h⟩ := h
  refine xr_getI (ci := 4) (C := RX4) (T := TX4) (N := 6) hx hb hL4 hown hK hh g6 (by decide) rfl 2 82 rfl rfl (by decide) (by decide) q6 (fun _ h9 => h9) dX4_countParts_27 ?_
  refine lv_aload_n hx hb dX4_countParts_30 rfl (lv_at hl 1 rfl) ?_
  obtain ⟨g7, h⟩ := h
  refine xr_getI (ci := 4) (C := RX4) (T := TX4) (N := 6) hx hb hL4 hown hK hh g7 (by decide) rfl 1 81 rfl rfl (by decide) (by decide) q2 (fun _ h9 => h9) dX4_countParts_31 ?_
  refine lv_isub hx hb dX4_countParts_34 ?_
  refine lv_sipush (v := 3600) hx hb dX4_countParts_35 (by decide) ?_
  refine lv_idiv hx hb dX4_countParts_38 (by decide) ?_
  refine lv_aload_n hx hb dX4_countParts_39 rfl (lv_at hl 1 rfl) ?_
  obtain ⟨g8, h⟩ := h
  refine xr_getI (ci := 4) (C := RX4) (T := TX4) (N := 6) hx hb hL4 hown hK hh g8 (by decide) rfl 4 84 rfl rfl (by decide) (by decide) q5 (fun _ h9 => h9) dX4_countParts_40 ?_
  refine lv_aload_n hx hb dX4_countParts_43 rfl (lv_at hl 1 rfl) ?_
  obtain ⟨g9, h⟩ := h
  refine xr_getI (ci := 4) (C := RX4) (T := TX4) (N := 6) hx hb hL4 hown hK hh g9 (by decide) rfl 3 83 rfl rfl (by decide) (by decide) q7 (fun _ h9 => h9) dX4_countParts_44 ?_
  refine lv_isub hx hb dX4_countParts_47 ?_
  refine lv_sipush (v := 3600) hx hb dX4_countParts_48 (by decide) ?_
  refine lv_idiv hx hb dX4_countParts_51 (by decide) ?_
  refine lv_iadd hx hb dX4_countParts_52 ?_
  refine lv_topi (fun x10 ex10 => ?_)
  replace h := h x10 ex10
  refine lv_istore_n (lv' := [(2, .int x10), (1, .int x5), (0, .ref a0)]) hx hb dX4_countParts_53 rfl hl (by decide) rfl (fun ls hl => ?_)
  refine lv_iload_n hx hb dX4_countParts_54 rfl (lv_at hl 1 rfl) ?_
  refine lv_iload_n hx hb dX4_countParts_55 rfl (lv_at hl 0 rfl) ?_
  refine lv_iadd hx hb dX4_countParts_56 ?_
  refine lv_aload_n hx hb dX4_countParts_57 rfl (lv_at hl 2 rfl) ?_
  obtain ⟨g11, h⟩ := h
  refine xr_getI (ci := 4) (C := RX4) (T := TX4) (N := 6) hx hb hL4 hown hK hh g11 (by decide) rfl 3 83 rfl rfl (by decide) (by decide) q7 (fun _ h9 => h9) dX4_countParts_58 ?_
  refine lv_aload_n hx hb dX4_countParts_61 rfl (lv_at hl 2 rfl) ?_
  obtain ⟨g12, h⟩ := h
  refine xr_getI (ci := 4) (C := RX4) (T := TX4) (N := 6) hx hb hL4 hown hK hh g12 (by decide) rfl 2 82 rfl rfl (by decide) (by decide) q6 (fun _ h9 => h9) dX4_countParts_62 ?_
  refine lv_isub hx hb dX4_countParts_65 ?_
  refine lv_ldc hx hb hown q8 dX4_countParts_66 ?_
  refine lv_idiv hx hb dX4_countParts_68 (by decide) ?_
  refine lv_iadd hx hb dX4_countParts_69 ?_
  exact (xe_i hx hb hr hlocks hbase hh hK hX hS h (Nat.le_of_ble_eq_true rfl) (Nat.le_of_ble_eq_true rfl) dX4_countParts_70)

set_option maxHeartbeats 4000000 in
set_option maxRecDepth 100000 in
theorem mt_X5_parts (l : Launch) (hl9 : l.stackTraces = false) (G : GG) (base : Nat) {a0 : Nat} {p1 : Int32} {p2 : Int32} {m0 : MM} {Q : Int32 → MM → Prop} {X : Nat → MM → Prop} (h : wp_X5_parts a0 p1 p2 m0 Q X) : vx_Met l yX5_parts wsX5_parts ({ frames := 7, cells := 1, slots := 6, locals := 118 }) (va_Pc [.ref a0, .int p1, .int p2] (SP G base m0)) (va_Qi Q (HB G base) (xA base)) (xX G base X) 1 6 (xA base) := by
  refine vx_ofW (cc := cX5_parts) (maxL := 3) (ret := (some .int)) (by decide) rfl ?_
  intro p e s m args below meth c s₁ B hml hout hv
  obtain ⟨rfl, hbase, hh, hK, hX⟩ := hv
  have C0 : BC p s m _ meth c G base RX5 cX5_parts 3 (some .int) wsX5_parts := ⟨B.exec, B.bytes, B.returns, hml, findClass_of_methodNamed B.named, atoms_spec (ws := wsX5_parts) B.pre, B.notSynchronized, hK, hbase, hX⟩
  obtain ⟨hx, hb, hr, -, hown, hts, hlocks, -, -, -⟩ := id C0
  have hS : va_S (xA base) s.heap s.heap [] := va_S.rf
  have hl := lv_entry ([.ref a0, .int p1, .int p2]) (n := 3) (Nat.le_of_ble_eq_true rfl)
  rw [lg_entry_eq]
  generalize (lg_sl ([.ref a0, .int p1, .int p2]) ++ List.replicate (3 - (lg_sl ([.ref a0, .int p1, .int p2])).length) Slot.unset).toArray = ls at hl ⊢
  have hl : lv_has ls 3 [(0, .ref a0), (1, .int p1), (2, .int p2)] := hl
  unfold wp_X5_parts at h
  have hL5 : ∀ w ∈ u_ws RX5 TX5 7, w.before _ s = true := fun w h9 => hts w (List.mem_cons_of_mem _ (List.mem_append_left _ (List.mem_append_left _ (List.mem_append_right _ (h9)))))
  have q2 : (Cond.fieldLink RX5 28 "RollupStore" "window" "LRollupStore$Window;").before _ s = true := hts _ (List.mem_cons_of_mem _ (List.mem_append_left _ (List.mem_append_left _ (List.mem_append_left _ (List.mem_append_left _ (List.mem_of_getElem? (i := 0) rfl))))))
  refine lv_iload_n hx hb dX5_parts_0 rfl (lv_at hl 1 rfl) ?_
  refine lv_iload_n hx hb dX5_parts_1 rfl (lv_at hl 2 rfl) ?_
  refine lv_bipush (v := 60) hx hb dX5_parts_2 (by decide) ?_
  refine xt_v (vx_runS (As := [.int p1, .int p2, .int (60 : Int32)]) (rest := []) ⟨hx, hb, hml, hown, hts⟩ (mt_X5_needWindow l hl9 G base h) (va_cwS 3 hts gX5_parts_X5_needWindow rfl rfl rfl (by decide +kernel) ⟨Nat.le_of_ble_eq_true rfl, Nat.le_of_ble_eq_true rfl⟩) (xp_S hbase hh hK hX hS) rfl rfl hl.1 rfl (lv_room (Nat.le_of_ble_eq_true rfl)) dX5_parts_4 ⟨Nat.le_of_ble_eq_true rfl, Nat.le_of_ble_eq_true rfl⟩) hS (fun k9 m9 H locs q9 ce h hh hS hc9 hv9 hcl9 => xe_out hout hlocks hbase hh hK hX hS h hc9 hv9 hcl9 (Nat.le_of_ble_eq_true rfl) (Nat.le_of_ble_eq_true rfl)) (fun m2 H locs h hh hS => ?_)
  refine lv_aload_n hx hb dX5_parts_7 rfl (lv_at hl 0 rfl) ?_
  obtain ⟨g3, h⟩ := h
  obtain ⟨b4, eb4, h⟩ := h
  refine xr_getR (ci := 5) (C := RX5) (T := TX5) (N := 7) hx hb hL5 hown hK hh g3 (by decide) rfl 5 105 rfl rfl (by decide) (by decide) q2 (fun _ h9 => h9) eb4 dX5_parts_8 ?_
  refine lv_iload_n hx hb dX5_parts_11 rfl (lv_at hl 1 rfl) ?_
  refine lv_iload_n hx hb dX5_parts_12 rfl (lv_at hl 2 rfl) ?_
  obtain ⟨g5, h⟩ := h
  refine xc_v (va_runV (As := [.int p1, .int p2]) (rest := []) ⟨hx, hb, hml, hown, hts⟩ (mt_X4_cut l G base h) (cwV 2 hts gX5_parts_X4_cut rfl rfl rfl (by decide +kernel) ⟨Nat.le_of_ble_eq_true rfl, Nat.le_of_ble_eq_true rfl⟩) (xp_V hbase hh hK hX hS (ci := 4) g5 (by decide) rfl) rfl rfl hl.1 rfl (lv_room (Nat.le_of_ble_eq_true rfl)) dX5_parts_13 ⟨Nat.le_of_ble_eq_true rfl, Nat.le_of_ble_eq_true rfl⟩) hS (fun m7 H locs h hh hS => ?_)
  refine lv_aload_n hx hb dX5_parts_16 rfl (lv_at hl 0 rfl) ?_
  obtain ⟨g8, h⟩ := h
  obtain ⟨b9, eb9, h⟩ := h
  refine xr_getR (ci := 5) (C := RX5) (T := TX5) (N := 7) hx hb hL5 hown hK hh g8 (by decide) rfl 5 105 rfl rfl (by decide) (by decide) q2 (fun _ h9 => h9) eb9 dX5_parts_17 ?_
  obtain ⟨g10, h⟩ := h
  refine xc_i (va_runV (As := []) (rest := []) ⟨hx, hb, hml, hown, hts⟩ (mt_X4_countParts l G base h) (cwV 0 hts gX5_parts_X4_countParts rfl rfl rfl (by decide +kernel) ⟨Nat.le_of_ble_eq_true rfl, Nat.le_of_ble_eq_true rfl⟩) (xp_V hbase hh hK hX hS (ci := 4) g10 (by decide) rfl) rfl rfl hl.1 rfl (lv_room (Nat.le_of_ble_eq_true rfl)) dX5_parts_20 ⟨Nat.le_of_ble_eq_true rfl, Nat.le_of_ble_eq_true rfl⟩) hS (fun r11 m12 H locs h hh hS => ?_)
  exact vx_ret (xe_i hx hb hr hlocks hbase hh hK hX hS h (Nat.le_of_ble_eq_true rfl) (Nat.le_of_ble_eq_true rfl) dX5_parts_23)

set_option maxHeartbeats 4000000 in
set_option maxRecDepth 100000 in
theorem mtq_X5_parts (l : Launch) (G : GG) (base : Nat) {a0 : Nat} {p1 : Int32} {p2 : Int32} {m0 : MM} {Q : Int32 → MM → Prop} (h : wp_X5_parts a0 p1 p2 m0 Q (fun _ _ => False)) : Met l yX5_parts wsX5_parts ({ frames := 7, cells := 0, slots := 0, locals := 118 }) (va_Pc [.ref a0, .int p1, .int p2] (SP G base m0)) (va_Qi Q (HB G base) (xA base)) 0 0 (xA base) := by
  refine Met.ofW (cc := cX5_parts) (maxL := 3) (ret := (some .int)) (by decide) rfl ?_
  intro p e s m args below meth c s₁ B hml hv
  obtain ⟨rfl, hbase, hh, hK, hX⟩ := hv
  have C0 : BC p s m _ meth c G base RX5 cX5_parts 3 (some .int) wsX5_parts := ⟨B.exec, B.bytes, B.returns, hml, findClass_of_methodNamed B.named, atoms_spec (ws := wsX5_parts) B.pre, B.notSynchronized, hK, hbase, hX⟩
  obtain ⟨hx, hb, hr, -, hown, hts, hlocks, -, -, -⟩ := id C0
  have hS : va_S (xA base) s.heap s.heap [] := va_S.rf
  have hl := lv_entry ([.ref a0, .int p1, .int p2]) (n := 3) (Nat.le_of_ble_eq_true rfl)
  rw [lg_entry_eq]
  generalize (lg_sl ([.ref a0, .int p1, .int p2]) ++ List.replicate (3 - (lg_sl ([.ref a0, .int p1, .int p2])).length) Slot.unset).toArray = ls at hl ⊢
  have hl : lv_has ls 3 [(0, .ref a0), (1, .int p1), (2, .int p2)] := hl
  unfold wp_X5_parts at h
  have hL5 : ∀ w ∈ u_ws RX5 TX5 7, w.before _ s = true := fun w h9 => hts w (List.mem_cons_of_mem _ (List.mem_append_left _ (List.mem_append_left _ (List.mem_append_right _ (h9)))))
  have q2 : (Cond.fieldLink RX5 28 "RollupStore" "window" "LRollupStore$Window;").before _ s = true := hts _ (List.mem_cons_of_mem _ (List.mem_append_left _ (List.mem_append_left _ (List.mem_append_left _ (List.mem_append_left _ (List.mem_of_getElem? (i := 0) rfl))))))
  refine lv_iload_n hx hb dX5_parts_0 rfl (lv_at hl 1 rfl) ?_
  refine lv_iload_n hx hb dX5_parts_1 rfl (lv_at hl 2 rfl) ?_
  refine lv_bipush (v := 60) hx hb dX5_parts_2 (by decide) ?_
  refine xc_v (va_runS (As := [.int p1, .int p2, .int (60 : Int32)]) (rest := []) ⟨hx, hb, hml, hown, hts⟩ (mtq_X5_needWindow l G base h) (va_cwS 3 hts gX5_parts_X5_needWindow rfl rfl rfl (by decide +kernel) ⟨Nat.le_of_ble_eq_true rfl, Nat.le_of_ble_eq_true rfl⟩) (xp_S hbase hh hK hX hS) rfl rfl hl.1 rfl (lv_room (Nat.le_of_ble_eq_true rfl)) dX5_parts_4 ⟨Nat.le_of_ble_eq_true rfl, Nat.le_of_ble_eq_true rfl⟩) hS (fun m2 H locs h hh hS => ?_)
  refine lv_aload_n hx hb dX5_parts_7 rfl (lv_at hl 0 rfl) ?_
  obtain ⟨g3, h⟩ := h
  obtain ⟨b4, eb4, h⟩ := h
  refine xr_getR (ci := 5) (C := RX5) (T := TX5) (N := 7) hx hb hL5 hown hK hh g3 (by decide) rfl 5 105 rfl rfl (by decide) (by decide) q2 (fun _ h9 => h9) eb4 dX5_parts_8 ?_
  refine lv_iload_n hx hb dX5_parts_11 rfl (lv_at hl 1 rfl) ?_
  refine lv_iload_n hx hb dX5_parts_12 rfl (lv_at hl 2 rfl) ?_
  obtain ⟨g5, h⟩ := h
  refine xc_v (va_runV (As := [.int p1, .int p2]) (rest := []) ⟨hx, hb, hml, hown, hts⟩ (mt_X4_cut l G base h) (cwV 2 hts gX5_parts_X4_cut rfl rfl rfl (by decide +kernel) ⟨Nat.le_of_ble_eq_true rfl, Nat.le_of_ble_eq_true rfl⟩) (xp_V hbase hh hK hX hS (ci := 4) g5 (by decide) rfl) rfl rfl hl.1 rfl (lv_room (Nat.le_of_ble_eq_true rfl)) dX5_parts_13 ⟨Nat.le_of_ble_eq_true rfl, Nat.le_of_ble_eq_true rfl⟩) hS (fun m7 H locs h hh hS => ?_)
  refine lv_aload_n hx hb dX5_parts_16 rfl (lv_at hl 0 rfl) ?_
  obtain ⟨g8, h⟩ := h
  obtain ⟨b9, eb9, h⟩ := h
  refine xr_getR (ci := 5) (C := RX5) (T := TX5) (N := 7) hx hb hL5 hown hK hh g8 (by decide) rfl 5 105 rfl rfl (by decide) (by decide) q2 (fun _ h9 => h9) eb9 dX5_parts_17 ?_
  obtain ⟨g10, h⟩ := h
  refine xc_i (va_runV (As := []) (rest := []) ⟨hx, hb, hml, hown, hts⟩ (mt_X4_countParts l G base h) (cwV 0 hts gX5_parts_X4_countParts rfl rfl rfl (by decide +kernel) ⟨Nat.le_of_ble_eq_true rfl, Nat.le_of_ble_eq_true rfl⟩) (xp_V hbase hh hK hX hS (ci := 4) g10 (by decide) rfl) rfl rfl hl.1 rfl (lv_room (Nat.le_of_ble_eq_true rfl)) dX5_parts_20 ⟨Nat.le_of_ble_eq_true rfl, Nat.le_of_ble_eq_true rfl⟩) hS (fun r11 m12 H locs h hh hS => ?_)
  exact (xe_i hx hb hr hlocks hbase hh hK hX hS h (Nat.le_of_ble_eq_true rfl) (Nat.le_of_ble_eq_true rfl) dX5_parts_23)

set_option maxHeartbeats 4000000 in
set_option maxRecDepth 100000 in
theorem mt_X4_isFirstExpired (l : Launch) (G : GG) (base : Nat) {p1 : Int32} {p2 : Int32} {p3 : Int32} {p4 : Int32} {m0 : MM} {Q : Int32 → MM → Prop} (h : wp_X4_isFirstExpired p1 p2 p3 p4 m0 Q) : Met l yX4_isFirstExpired wsX4_isFirstExpired ({ frames := 0, cells := 0, slots := 0, locals := 8 }) (va_Pc [.int p1, .int p2, .int p3, .int p4] (SP G base m0)) (va_Qi Q (HB G base) (xA base)) 0 0 (xA base) := by
  refine Met.ofW (cc := cX4_isFirstExpired) (maxL := 4) (ret := (some .boolean)) (by decide) rfl ?_
  intro p e s m args below meth c s₁ B hml hv
  obtain ⟨rfl, hbase, hh, hK, hX⟩ := hv
  have C0 : BC p s m _ meth c G base RX4 cX4_isFirstExpired 4 (some .boolean) wsX4_isFirstExpired := ⟨B.exec, B.bytes, B.returns, hml, findClass_of_methodNamed B.named, atoms_spec (ws := wsX4_isFirstExpired) B.pre, B.notSynchronized, hK, hbase, hX⟩
  obtain ⟨hx, hb, hr, -, hown, hts, hlocks, -, -, -⟩ := id C0
  have hS : va_S (xA base) s.heap s.heap [] := va_S.rf
  have hl := lv_entry ([.int p1, .int p2, .int p3, .int p4]) (n := 4) (Nat.le_of_ble_eq_true rfl)
  rw [lg_entry_eq]
  generalize (lg_sl ([.int p1, .int p2, .int p3, .int p4]) ++ List.replicate (4 - (lg_sl ([.int p1, .int p2, .int p3, .int p4])).length) Slot.unset).toArray = ls at hl ⊢
  have hl : lv_has ls 4 [(0, .int p1), (1, .int p2), (2, .int p3), (3, .int p4)] := hl
  unfold wp_X4_isFirstExpired at h
  refine lv_iload_n hx hb dX4_isFirstExpired_0 rfl (lv_at hl 0 rfl) ?_
  refine lv_iload_n hx hb dX4_isFirstExpired_1 rfl (lv_at hl 1 rfl) ?_
  refine lv_icmp_ge (tgt := 16) hx hb dX4_isFirstExpired_2 (by decide) (fun c1 => ?_) (fun c1 => ?_)
  · replace h := h.1 c1
    refine lv_iconst (v := 0) hx hb dX4_isFirstExpired_16 (by decide) ?_
    exact (xe_z hx hb hr hlocks hbase hh hK hX hS (Or.inl rfl) h (Nat.le_of_ble_eq_true rfl) (Nat.le_of_ble_eq_true rfl) dX4_isFirstExpired_17)
  · replace h := h.2 c1
    refine lv_iload_n hx hb dX4_isFirstExpired_5 rfl (lv_at hl 0 rfl) ?_
    refine lv_iload_n hx hb dX4_isFirstExpired_6 rfl (lv_at hl 2 rfl) ?_
    refine lv_iadd hx hb dX4_isFirstExpired_7 ?_
    refine lv_iload_n hx hb dX4_isFirstExpired_8 rfl (lv_at hl 3 rfl) ?_
    refine lv_icmp_gt (tgt := 16) hx hb dX4_isFirstExpired_9 (by decide) (fun c2 => ?_) (fun c2 => ?_)
    · replace h := h.1 c2
      refine lv_iconst (v := 0) hx hb dX4_isFirstExpired_16 (by decide) ?_
      exact (xe_z hx hb hr hlocks hbase hh hK hX hS (Or.inl rfl) h (Nat.le_of_ble_eq_true rfl) (Nat.le_of_ble_eq_true rfl) dX4_isFirstExpired_17)
    · replace h := h.2 c2
      refine lv_iconst (v := 1) hx hb dX4_isFirstExpired_12 (by decide) ?_
      refine lv_goto (tgt := 17) hx hb dX4_isFirstExpired_13 (by decide) ?_
      exact (xe_z hx hb hr hlocks hbase hh hK hX hS (Or.inr rfl) h (Nat.le_of_ble_eq_true rfl) (Nat.le_of_ble_eq_true rfl) dX4_isFirstExpired_17)

set_option maxHeartbeats 4000000 in
set_option maxRecDepth 100000 in
theorem mt_X4_hasExpiredPart (l : Launch) (G : GG) (base : Nat) {a0 : Nat} {p1 : Nat} {m0 : MM} {Q : Int32 → MM → Prop} (h : wp_X4_hasExpiredPart a0 p1 m0 Q) : Met l yX4_hasExpiredPart wsX4_hasExpiredPart ({ frames := 1, cells := 0, slots := 0, locals := 31 }) (va_Pc [.ref a0, .ref p1] (SP G base m0)) (va_Qi Q (HB G base) (xA base)) 0 0 (xA base) := by
  refine Met.ofW (cc := cX4_hasExpiredPart) (maxL := 2) (ret := (some .boolean)) (by decide) rfl ?_
  intro p e s m args below meth c s₁ B hml hv
  obtain ⟨rfl, hbase, hh, hK, hX⟩ := hv
  have C0 : BC p s m _ meth c G base RX4 cX4_hasExpiredPart 2 (some .boolean) wsX4_hasExpiredPart := ⟨B.exec, B.bytes, B.returns, hml, findClass_of_methodNamed B.named, atoms_spec (ws := wsX4_hasExpiredPart) B.pre, B.notSynchronized, hK, hbase, hX⟩
  obtain ⟨hx, hb, hr, -, hown, hts, hlocks, -, -, -⟩ := id C0
  have hS : va_S (xA base) s.heap s.heap [] := va_S.rf
  have hl := lv_entry ([.ref a0, .ref p1]) (n := 2) (Nat.le_of_ble_eq_true rfl)
  rw [lg_entry_eq]
  generalize (lg_sl ([.ref a0, .ref p1]) ++ List.replicate (2 - (lg_sl ([.ref a0, .ref p1])).length) Slot.unset).toArray = ls at hl ⊢
  have hl : lv_has ls 2 [(0, .ref a0), (1, .ref p1)] := hl
  unfold wp_X4_hasExpiredPart at h
  have hL4 : ∀ w ∈ u_ws RX4 TX4 6, w.before _ s = true := fun w h9 => hts w (List.mem_cons_of_mem _ (List.mem_append_right _ (h9)))
  have q2 : (Cond.fieldLink RX4 9 "RollupStore$Window" "from" "I").before _ s = true := hts _ (List.mem_cons_of_mem _ (List.mem_append_left _ (List.mem_of_getElem? (i := 0) rfl)))
  have q3 : (Cond.fieldLink RX4 33 "RollupStore$Window" "hoursFrom" "I").before _ s = true := hts _ (List.mem_cons_of_mem _ (List.mem_append_left _ (List.mem_of_getElem? (i := 1) rfl)))
  have q4 : (Cond.fieldLink RX4 27 "RollupStore$Window" "daysFrom" "I").before _ s = true := hts _ (List.mem_cons_of_mem _ (List.mem_append_left _ (List.mem_of_getElem? (i := 2) rfl)))
  have q5 : (Cond.fieldLink RX4 30 "RollupStore$Window" "daysTo" "I").before _ s = true := hts _ (List.mem_cons_of_mem _ (List.mem_append_left _ (List.mem_of_getElem? (i := 3) rfl)))
  have q6 : (Cond.constant RX4 26 (86400)).before _ s = true := hts _ (List.mem_cons_of_mem _ (List.mem_append_left _ (List.mem_of_getElem? (i := 4) rfl)))
  have q7 : (Cond.fieldLink RX4 36 "RollupStore$Window" "hoursTo" "I").before _ s = true := hts _ (List.mem_cons_of_mem _ (List.mem_append_left _ (List.mem_of_getElem? (i := 5) rfl)))
  have q8 : (Cond.fieldLink RX4 15 "RollupStore$Window" "to" "I").before _ s = true := hts _ (List.mem_cons_of_mem _ (List.mem_append_left _ (List.mem_of_getElem? (i := 6) rfl)))
  refine lv_aload_n hx hb dX4_hasExpiredPart_0 rfl (lv_at hl 0 rfl) ?_
  obtain ⟨g1, h⟩ := h
  refine xr_getI (ci := 4) (C := RX4) (T := TX4) (N := 6) hx hb hL4 hown hK hh g1 (by decide) rfl 0 80 rfl rfl (by decide) (by decide) q2 (fun _ h9 => h9) dX4_hasExpiredPart_1 ?_
  refine lv_aload_n hx hb dX4_hasExpiredPart_4 rfl (lv_at hl 0 rfl) ?_
  obtain ⟨g2, h⟩ := h
  refine xr_getI (ci := 4) (C := RX4) (T := TX4) (N := 6) hx hb hL4 hown hK hh g2 (by decide) rfl 1 81 rfl rfl (by decide) (by decide) q3 (fun _ h9 => h9) dX4_hasExpiredPart_5 ?_
  refine lv_bipush (v := 60) hx hb dX4_hasExpiredPart_8 (by decide) ?_
  refine lv_aload_n hx hb dX4_hasExpiredPart_10 rfl (lv_at hl 1 rfl) ?_
  refine lv_iconst (v := 1) hx hb dX4_hasExpiredPart_11 (by decide) ?_
  obtain ⟨g3, h⟩ := h
  obtain ⟨g4, h⟩ := h
  refine xr_iald hx hb hK hh g3 g4 dX4_hasExpiredPart_12 ?_
  refine xc_i (va_runS (As := [.int (mI m0 80 a0), .int (mI m0 81 a0), .int (60 : Int32), .int (mAI m0 p1 (1 : Int32).toNatClampNeg)]) (rest := []) ⟨hx, hb, hml, hown, hts⟩ (mt_X4_isFirstExpired l G base h) (va_cwS 4 hts gX4_hasExpiredPart_X4_isFirstExpired rfl rfl rfl (by decide +kernel) ⟨Nat.le_of_ble_eq_true rfl, Nat.le_of_ble_eq_true rfl⟩) (xp_S hbase hh hK hX hS) rfl rfl hl.1 rfl (lv_room (Nat.le_of_ble_eq_true rfl)) dX4_hasExpiredPart_13 ⟨Nat.le_of_ble_eq_true rfl, Nat.le_of_ble_eq_true rfl⟩) hS (fun r5 m6 H locs h hh hS => ?_)
  refine lv_if_ne (tgt := 97) hx hb dX4_hasExpiredPart_16 (by decide) (fun c7 => ?_) (fun c7 => ?_)
  · replace h := h.1 c7
    refine lv_iconst (v := 1) hx hb dX4_hasExpiredPart_97 (by decide) ?_
    refine lv_goto (tgt := 102) hx hb dX4_hasExpiredPart_98 (by decide) ?_
    exact (xe_z hx hb hr hlocks hbase hh hK hX hS (Or.inr rfl) h (Nat.le_of_ble_eq_true rfl) (Nat.le_of_ble_eq_true rfl) dX4_hasExpiredPart_102)
  · replace h := h.2 c7
    refine lv_aload_n hx hb dX4_hasExpiredPart_19 rfl (lv_at hl 0 rfl) ?_
    obtain ⟨g8, h⟩ := h
    refine xr_getI (ci := 4) (C := RX4) (T := TX4) (N := 6) hx hb hL4 hown hK hh g8 (by decide) rfl 1 81 rfl rfl (by decide) (by decide) q3 (fun _ h9 => h9) dX4_hasExpiredPart_20 ?_
    refine lv_aload_n hx hb dX4_hasExpiredPart_23 rfl (lv_at hl 0 rfl) ?_
    obtain ⟨g9, h⟩ := h
    refine xr_getI (ci := 4) (C := RX4) (T := TX4) (N := 6) hx hb hL4 hown hK hh g9 (by decide) rfl 2 82 rfl rfl (by decide) (by decide) q4 (fun _ h9 => h9) dX4_hasExpiredPart_24 ?_
    refine lv_sipush (v := 3600) hx hb dX4_hasExpiredPart_27 (by decide) ?_
    refine lv_aload_n hx hb dX4_hasExpiredPart_30 rfl (lv_at hl 1 rfl) ?_
    refine lv_iconst (v := 2) hx hb dX4_hasExpiredPart_31 (by decide) ?_
    obtain ⟨g10, h⟩ := h
    obtain ⟨g11, h⟩ := h
    refine xr_iald hx hb hK hh g10 g11 dX4_hasExpiredPart_32 ?_
    refine xc_i (va_runS (As := [.int (mI m6 81 a0), .int (mI m6 82 a0), .int (3600 : Int32), .int (mAI m6 p1 (2 : Int32).toNatClampNeg)]) (rest := []) ⟨hx, hb, hml, hown, hts⟩ (mt_X4_isFirstExpired l G base h) (va_cwS 4 hts gX4_hasExpiredPart_X4_isFirstExpired rfl rfl rfl (by decide +kernel) ⟨Nat.le_of_ble_eq_true rfl, Nat.le_of_ble_eq_true rfl⟩) (xp_S hbase hh hK hX hS) rfl rfl hl.1 rfl (lv_room (Nat.le_of_ble_eq_true rfl)) dX4_hasExpiredPart_33 ⟨Nat.le_of_ble_eq_true rfl, Nat.le_of_ble_eq_true rfl⟩) hS (fun r12 m13 H locs h hh hS => ?_)
    refine lv_if_ne (tgt := 97) hx hb dX4_hasExpiredPart_36 (by decide) (fun c14 => ?_) (fun c14 => ?_)
    · replace h := h.1 c14
      refine lv_iconst (v := 1) hx hb dX4_hasExpiredPart_97 (by decide) ?_
      refine lv_goto (tgt := 102) hx hb dX4_hasExpiredPart_98 (by decide) ?_
      exact (xe_z hx hb hr hlocks hbase hh hK hX hS (Or.inr rfl) h (Nat.le_of_ble_eq_true rfl) (Nat.le_of_ble_eq_true rfl) dX4_hasExpiredPart_102)
    · replace h := h.2 c14
      refine lv_aload_n hx hb dX4_hasExpiredPart_39 rfl (lv_at hl 0 rfl) ?_
      obtain ⟨g15, h⟩ := h
      refine xr_getI (ci := 4) (C := RX4) (T := TX4) (N := 6) hx hb hL4 hown hK hh g15 (by decide) rfl 2 82 rfl rfl (by decide) (by decide) q4 (fun _ h9 => h9) dX4_hasExpiredPart_40 ?_
      refine lv_aload_n hx hb dX4_hasExpiredPart_43 rfl (lv_at hl 0 rfl) ?_
      obtain ⟨g16, h⟩ := h
      refine xr_getI (ci := 4) (C := RX4) (T := TX4) (N := 6) hx hb hL4 hown hK hh g16 (by decide) rfl 3 83 rfl rfl (by decide) (by decide) q5 (fun _ h9 => h9) dX4_hasExpiredPart_44 ?_
      refine lv_ldc hx hb hown q6 dX4_hasExpiredPart_47 ?_
      refine lv_aload_n hx hb dX4_hasExpiredPart_49 rfl (lv_at hl 1 rfl) ?_
      refine lv_iconst (v := 3) hx hb dX4_hasExpiredPart_50 (by decide) ?_
      obtain ⟨g17, h⟩ := h
      obtain ⟨g18, h⟩ := h
      refine xr_iald hx hb hK hh g17 g18 dX4_hasExpiredPart_51 ?_
      refine xc_i (va_runS (As := [.int (mI m13 82 a0), .int (mI m13 83 a0), .int (86400 : Int32), .int (mAI m13 p1 (3 : Int32).toNatClampNeg)]) (rest := []) ⟨hx, hb, hml, hown, hts⟩ (mt_X4_isFirstExpired l G base h) (va_cwS 4 hts gX4_hasExpiredPart_X4_isFirstExpired rfl rfl rfl (by decide +kernel) ⟨Nat.le_of_ble_eq_true rfl, Nat.le_of_ble_eq_true rfl⟩) (xp_S hbase hh hK hX hS) rfl rfl hl.1 rfl (lv_room (Nat.le_of_ble_eq_true rfl)) dX4_hasExpiredPart_52 ⟨Nat.le_of_ble_eq_true rfl, Nat.le_of_ble_eq_true rfl⟩) hS (fun r19 m20 H locs h hh hS => ?_)
      refine lv_if_ne (tgt := 97) hx hb dX4_hasExpiredPart_55 (by decide) (fun c21 => ?_) (fun c21 => ?_)
      · replace h := h.1 c21
        refine lv_iconst (v := 1) hx hb dX4_hasExpiredPart_97 (by decide) ?_
        refine lv_goto (tgt := 102) hx hb dX4_hasExpiredPart_98 (by decide) ?_
        exact (xe_z hx hb hr hlocks hbase hh hK hX hS (Or.inr rfl) h (Nat.le_of_ble_eq_true rfl) (Nat.le_of_ble_eq_true rfl) dX4_hasExpiredPart_102)
      · replace h := h.2 c21
        refine lv_aload_n hx hb dX4_hasExpiredPart_58 rfl (lv_at hl 0 rfl) ?_
        obtain ⟨g22, h⟩ := h
        refine xr_getI (ci := 4) (C := RX4) (T := TX4) (N := 6) hx hb hL4 hown hK hh g22 (by decide) rfl 3 83 rfl rfl (by decide) (by decide) q5 (fun _ h9 => h9) dX4_hasExpiredPart_59 ?_
        refine lv_aload_n hx hb dX4_hasExpiredPart_62 rfl (lv_at hl 0 rfl) ?_
        obtain ⟨g23, h⟩ := h
        refine xr_getI (ci := 4) (C := RX4) (T := TX4) (N := 6) hx hb hL4 hown hK hh g23 (by decide) rfl 4 84 rfl rfl (by decide) (by decide) q7 (fun _ h9 => h9) dX4_hasExpiredPart_63 ?_
        refine lv_sipush (v := 3600) hx hb dX4_hasExpiredPart_66 (by decide) ?_
        refine lv_aload_n hx hb dX4_hasExpiredPart_69 rfl (lv_at hl 1 rfl) ?_
        refine lv_iconst (v := 2) hx hb dX4_hasExpiredPart_70 (by decide) ?_
        obtain ⟨g24, h⟩ := h
        obtain ⟨g25, h⟩ := h
        refine xr_iald hx hb hK hh g24 g25 dX4_hasExpiredPart_71 ?_
        refine xc_i (va_runS (As := [.int (mI m20 83 a0), .int (mI m20 84 a0), .int (3600 : Int32), .int (mAI m20 p1 (2 : Int32).toNatClampNeg)]) (rest := []) ⟨hx, hb, hml, hown, hts⟩ (mt_X4_isFirstExpired l G base h) (va_cwS 4 hts gX4_hasExpiredPart_X4_isFirstExpired rfl rfl rfl (by decide +kernel) ⟨Nat.le_of_ble_eq_true rfl, Nat.le_of_ble_eq_true rfl⟩) (xp_S hbase hh hK hX hS) rfl rfl hl.1 rfl (lv_room (Nat.le_of_ble_eq_true rfl)) dX4_hasExpiredPart_72 ⟨Nat.le_of_ble_eq_true rfl, Nat.le_of_ble_eq_true rfl⟩) hS (fun r26 m27 H locs h hh hS => ?_)
        refine lv_if_ne (tgt := 97) hx hb dX4_hasExpiredPart_75 (by decide) (fun c28 => ?_) (fun c28 => ?_)
        · replace h := h.1 c28
          refine lv_iconst (v := 1) hx hb dX4_hasExpiredPart_97 (by decide) ?_
          refine lv_goto (tgt := 102) hx hb dX4_hasExpiredPart_98 (by decide) ?_
          exact (xe_z hx hb hr hlocks hbase hh hK hX hS (Or.inr rfl) h (Nat.le_of_ble_eq_true rfl) (Nat.le_of_ble_eq_true rfl) dX4_hasExpiredPart_102)
        · replace h := h.2 c28
          refine lv_aload_n hx hb dX4_hasExpiredPart_78 rfl (lv_at hl 0 rfl) ?_
          obtain ⟨g29, h⟩ := h
          refine xr_getI (ci := 4) (C := RX4) (T := TX4) (N := 6) hx hb hL4 hown hK hh g29 (by decide) rfl 4 84 rfl rfl (by decide) (by decide) q7 (fun _ h9 => h9) dX4_hasExpiredPart_79 ?_
          refine lv_aload_n hx hb dX4_hasExpiredPart_82 rfl (lv_at hl 0 rfl) ?_
          obtain ⟨g30, h⟩ := h
          refine xr_getI (ci := 4) (C := RX4) (T := TX4) (N := 6) hx hb hL4 hown hK hh g30 (by decide) rfl 5 85 rfl rfl (by decide) (by decide) q8 (fun _ h9 => h9) dX4_hasExpiredPart_83 ?_
          refine lv_bipush (v := 60) hx hb dX4_hasExpiredPart_86 (by decide) ?_
          refine lv_aload_n hx hb dX4_hasExpiredPart_88 rfl (lv_at hl 1 rfl) ?_
          refine lv_iconst (v := 1) hx hb dX4_hasExpiredPart_89 (by decide) ?_
          obtain ⟨g31, h⟩ := h
          obtain ⟨g32, h⟩ := h
          refine xr_iald hx hb hK hh g31 g32 dX4_hasExpiredPart_90 ?_
          refine xc_i (va_runS (As := [.int (mI m27 84 a0), .int (mI m27 85 a0), .int (60 : Int32), .int (mAI m27 p1 (1 : Int32).toNatClampNeg)]) (rest := []) ⟨hx, hb, hml, hown, hts⟩ (mt_X4_isFirstExpired l G base h) (va_cwS 4 hts gX4_hasExpiredPart_X4_isFirstExpired rfl rfl rfl (by decide +kernel) ⟨Nat.le_of_ble_eq_true rfl, Nat.le_of_ble_eq_true rfl⟩) (xp_S hbase hh hK hX hS) rfl rfl hl.1 rfl (lv_room (Nat.le_of_ble_eq_true rfl)) dX4_hasExpiredPart_91 ⟨Nat.le_of_ble_eq_true rfl, Nat.le_of_ble_eq_true rfl⟩) hS (fun r33 m34 H locs h hh hS => ?_)
          refine lv_if_eq (tgt := 101) hx hb dX4_hasExpiredPart_94 (by decide) (fun c35 => ?_) (fun c35 => ?_)
          · replace h := h.1 c35
            refine lv_iconst (v := 0) hx hb dX4_hasExpiredPart_101 (by decide) ?_
            exact (xe_z hx hb hr hlocks hbase hh hK hX hS (Or.inl rfl) h (Nat.le_of_ble_eq_true rfl) (Nat.le_of_ble_eq_true rfl) dX4_hasExpiredPart_102)
          · replace h := h.2 c35
            refine lv_iconst (v := 1) hx hb dX4_hasExpiredPart_97 (by decide) ?_
            refine lv_goto (tgt := 102) hx hb dX4_hasExpiredPart_98 (by decide) ?_
            exact (xe_z hx hb hr hlocks hbase hh hK hX hS (Or.inr rfl) h (Nat.le_of_ble_eq_true rfl) (Nat.le_of_ble_eq_true rfl) dX4_hasExpiredPart_102)

set_option maxHeartbeats 4000000 in
set_option maxRecDepth 100000 in
theorem mt_X5_isKnown (l : Launch) (hl9 : l.stackTraces = false) (G : GG) (base : Nat) {a0 : Nat} {p1 : Int32} {p2 : Int32} {m0 : MM} {Q : Int32 → MM → Prop} {X : Nat → MM → Prop} (h : wp_X5_isKnown a0 p1 p2 m0 Q X) : vx_Met l yX5_isKnown wsX5_isKnown ({ frames := 7, cells := 1, slots := 6, locals := 118 }) (va_Pc [.ref a0, .int p1, .int p2] (SP G base m0)) (va_Qi Q (HB G base) (xA base)) (xX G base X) 1 6 (xA base) := by
  refine vx_ofW (cc := cX5_isKnown) (maxL := 3) (ret := (some .boolean)) (by decide) rfl ?_
  intro p e s m args below meth c s₁ B hml hout hv
  obtain ⟨rfl, hbase, hh, hK, hX⟩ := hv
  have C0 : BC p s m _ meth c G base RX5 cX5_isKnown 3 (some .boolean) wsX5_isKnown := ⟨B.exec, B.bytes, B.returns, hml, findClass_of_methodNamed B.named, atoms_spec (ws := wsX5_isKnown) B.pre, B.notSynchronized, hK, hbase, hX⟩
  obtain ⟨hx, hb, hr, -, hown, hts, hlocks, -, -, -⟩ := id C0
  have hS : va_S (xA base) s.heap s.heap [] := va_S.rf
  have hl := lv_entry ([.ref a0, .int p1, .int p2]) (n := 3) (Nat.le_of_ble_eq_true rfl)
  rw [lg_entry_eq]
  generalize (lg_sl ([.ref a0, .int p1, .int p2]) ++ List.replicate (3 - (lg_sl ([.ref a0, .int p1, .int p2])).length) Slot.unset).toArray = ls at hl ⊢
  have hl : lv_has ls 3 [(0, .ref a0), (1, .int p1), (2, .int p2)] := hl
  unfold wp_X5_isKnown at h
  have hL5 : ∀ w ∈ u_ws RX5 TX5 7, w.before _ s = true := fun w h9 => hts w (List.mem_cons_of_mem _ (List.mem_append_left _ (List.mem_append_left _ (List.mem_append_right _ (h9)))))
  have q2 : (Cond.fieldLink RX5 28 "RollupStore" "window" "LRollupStore$Window;").before _ s = true := hts _ (List.mem_cons_of_mem _ (List.mem_append_left _ (List.mem_append_left _ (List.mem_append_left _ (List.mem_append_left _ (List.mem_of_getElem? (i := 0) rfl))))))
  have q3 : (Cond.fieldLink RX5 22 "RollupStore" "horizon" "[I").before _ s = true := hts _ (List.mem_cons_of_mem _ (List.mem_append_left _ (List.mem_append_left _ (List.mem_append_left _ (List.mem_append_left _ (List.mem_of_getElem? (i := 1) rfl))))))
  refine lv_iload_n hx hb dX5_isKnown_0 rfl (lv_at hl 1 rfl) ?_
  refine lv_iload_n hx hb dX5_isKnown_1 rfl (lv_at hl 2 rfl) ?_
  refine lv_bipush (v := 60) hx hb dX5_isKnown_2 (by decide) ?_
  refine xt_v (vx_runS (As := [.int p1, .int p2, .int (60 : Int32)]) (rest := []) ⟨hx, hb, hml, hown, hts⟩ (mt_X5_needWindow l hl9 G base h) (va_cwS 3 hts gX5_isKnown_X5_needWindow rfl rfl rfl (by decide +kernel) ⟨Nat.le_of_ble_eq_true rfl, Nat.le_of_ble_eq_true rfl⟩) (xp_S hbase hh hK hX hS) rfl rfl hl.1 rfl (lv_room (Nat.le_of_ble_eq_true rfl)) dX5_isKnown_4 ⟨Nat.le_of_ble_eq_true rfl, Nat.le_of_ble_eq_true rfl⟩) hS (fun k9 m9 H locs q9 ce h hh hS hc9 hv9 hcl9 => xe_out hout hlocks hbase hh hK hX hS h hc9 hv9 hcl9 (Nat.le_of_ble_eq_true rfl) (Nat.le_of_ble_eq_true rfl)) (fun m2 H locs h hh hS => ?_)
  refine lv_aload_n hx hb dX5_isKnown_7 rfl (lv_at hl 0 rfl) ?_
  obtain ⟨g3, h⟩ := h
  obtain ⟨b4, eb4, h⟩ := h
  refine xr_getR (ci := 5) (C := RX5) (T := TX5) (N := 7) hx hb hL5 hown hK hh g3 (by decide) rfl 5 105 rfl rfl (by decide) (by decide) q2 (fun _ h9 => h9) eb4 dX5_isKnown_8 ?_
  refine lv_iload_n hx hb dX5_isKnown_11 rfl (lv_at hl 1 rfl) ?_
  refine lv_iload_n hx hb dX5_isKnown_12 rfl (lv_at hl 2 rfl) ?_
  obtain ⟨g5, h⟩ := h
  refine xc_v (va_runV (As := [.int p1, .int p2]) (rest := []) ⟨hx, hb, hml, hown, hts⟩ (mt_X4_cut l G base h) (cwV 2 hts gX5_isKnown_X4_cut rfl rfl rfl (by decide +kernel) ⟨Nat.le_of_ble_eq_true rfl, Nat.le_of_ble_eq_true rfl⟩) (xp_V hbase hh hK hX hS (ci := 4) g5 (by decide) rfl) rfl rfl hl.1 rfl (lv_room (Nat.le_of_ble_eq_true rfl)) dX5_isKnown_13 ⟨Nat.le_of_ble_eq_true rfl, Nat.le_of_ble_eq_true rfl⟩) hS (fun m7 H locs h hh hS => ?_)
  refine lv_aload_n hx hb dX5_isKnown_16 rfl (lv_at hl 0 rfl) ?_
  obtain ⟨g8, h⟩ := h
  obtain ⟨b9, eb9, h⟩ := h
  refine xr_getR (ci := 5) (C := RX5) (T := TX5) (N := 7) hx hb hL5 hown hK hh g8 (by decide) rfl 5 105 rfl rfl (by decide) (by decide) q2 (fun _ h9 => h9) eb9 dX5_isKnown_17 ?_
  refine lv_aload_n hx hb dX5_isKnown_20 rfl (lv_at hl 0 rfl) ?_
  obtain ⟨g10, h⟩ := h
  obtain ⟨b11, eb11, h⟩ := h
  refine xr_getR (ci := 5) (C := RX5) (T := TX5) (N := 7) hx hb hL5 hown hK hh g10 (by decide) rfl 4 104 rfl rfl (by decide) (by decide) q3 (fun _ h9 => h9) eb11 dX5_isKnown_21 ?_
  obtain ⟨g12, h⟩ := h
  refine xc_i (va_runV (As := [.ref b11]) (rest := []) ⟨hx, hb, hml, hown, hts⟩ (mt_X4_hasExpiredPart l G base h) (cwV 1 hts gX5_isKnown_X4_hasExpiredPart rfl rfl rfl (by decide +kernel) ⟨Nat.le_of_ble_eq_true rfl, Nat.le_of_ble_eq_true rfl⟩) (xp_V hbase hh hK hX hS (ci := 4) g12 (by decide) rfl) rfl rfl hl.1 rfl (lv_room (Nat.le_of_ble_eq_true rfl)) dX5_isKnown_24 ⟨Nat.le_of_ble_eq_true rfl, Nat.le_of_ble_eq_true rfl⟩) hS (fun r13 m14 H locs h hh hS => ?_)
  refine lv_if_ne (tgt := 34) hx hb dX5_isKnown_27 (by decide) (fun c15 => ?_) (fun c15 => ?_)
  · replace h := h.1 c15
    refine lv_iconst (v := 0) hx hb dX5_isKnown_34 (by decide) ?_
    exact vx_ret (xe_z hx hb hr hlocks hbase hh hK hX hS (Or.inl rfl) h (Nat.le_of_ble_eq_true rfl) (Nat.le_of_ble_eq_true rfl) dX5_isKnown_35)
  · replace h := h.2 c15
    refine lv_iconst (v := 1) hx hb dX5_isKnown_30 (by decide) ?_
    refine lv_goto (tgt := 35) hx hb dX5_isKnown_31 (by decide) ?_
    exact vx_ret (xe_z hx hb hr hlocks hbase hh hK hX hS (Or.inr rfl) h (Nat.le_of_ble_eq_true rfl) (Nat.le_of_ble_eq_true rfl) dX5_isKnown_35)

set_option maxHeartbeats 4000000 in
set_option maxRecDepth 100000 in
theorem mtq_X5_isKnown (l : Launch) (G : GG) (base : Nat) {a0 : Nat} {p1 : Int32} {p2 : Int32} {m0 : MM} {Q : Int32 → MM → Prop} (h : wp_X5_isKnown a0 p1 p2 m0 Q (fun _ _ => False)) : Met l yX5_isKnown wsX5_isKnown ({ frames := 7, cells := 0, slots := 0, locals := 118 }) (va_Pc [.ref a0, .int p1, .int p2] (SP G base m0)) (va_Qi Q (HB G base) (xA base)) 0 0 (xA base) := by
  refine Met.ofW (cc := cX5_isKnown) (maxL := 3) (ret := (some .boolean)) (by decide) rfl ?_
  intro p e s m args below meth c s₁ B hml hv
  obtain ⟨rfl, hbase, hh, hK, hX⟩ := hv
  have C0 : BC p s m _ meth c G base RX5 cX5_isKnown 3 (some .boolean) wsX5_isKnown := ⟨B.exec, B.bytes, B.returns, hml, findClass_of_methodNamed B.named, atoms_spec (ws := wsX5_isKnown) B.pre, B.notSynchronized, hK, hbase, hX⟩
  obtain ⟨hx, hb, hr, -, hown, hts, hlocks, -, -, -⟩ := id C0
  have hS : va_S (xA base) s.heap s.heap [] := va_S.rf
  have hl := lv_entry ([.ref a0, .int p1, .int p2]) (n := 3) (Nat.le_of_ble_eq_true rfl)
  rw [lg_entry_eq]
  generalize (lg_sl ([.ref a0, .int p1, .int p2]) ++ List.replicate (3 - (lg_sl ([.ref a0, .int p1, .int p2])).length) Slot.unset).toArray = ls at hl ⊢
  have hl : lv_has ls 3 [(0, .ref a0), (1, .int p1), (2, .int p2)] := hl
  unfold wp_X5_isKnown at h
  have hL5 : ∀ w ∈ u_ws RX5 TX5 7, w.before _ s = true := fun w h9 => hts w (List.mem_cons_of_mem _ (List.mem_append_left _ (List.mem_append_left _ (List.mem_append_right _ (h9)))))
  have q2 : (Cond.fieldLink RX5 28 "RollupStore" "window" "LRollupStore$Window;").before _ s = true := hts _ (List.mem_cons_of_mem _ (List.mem_append_left _ (List.mem_append_left _ (List.mem_append_left _ (List.mem_append_left _ (List.mem_of_getElem? (i := 0) rfl))))))
  have q3 : (Cond.fieldLink RX5 22 "RollupStore" "horizon" "[I").before _ s = true := hts _ (List.mem_cons_of_mem _ (List.mem_append_left _ (List.mem_append_left _ (List.mem_append_left _ (List.mem_append_left _ (List.mem_of_getElem? (i := 1) rfl))))))
  refine lv_iload_n hx hb dX5_isKnown_0 rfl (lv_at hl 1 rfl) ?_
  refine lv_iload_n hx hb dX5_isKnown_1 rfl (lv_at hl 2 rfl) ?_
  refine lv_bipush (v := 60) hx hb dX5_isKnown_2 (by decide) ?_
  refine xc_v (va_runS (As := [.int p1, .int p2, .int (60 : Int32)]) (rest := []) ⟨hx, hb, hml, hown, hts⟩ (mtq_X5_needWindow l G base h) (va_cwS 3 hts gX5_isKnown_X5_needWindow rfl rfl rfl (by decide +kernel) ⟨Nat.le_of_ble_eq_true rfl, Nat.le_of_ble_eq_true rfl⟩) (xp_S hbase hh hK hX hS) rfl rfl hl.1 rfl (lv_room (Nat.le_of_ble_eq_true rfl)) dX5_isKnown_4 ⟨Nat.le_of_ble_eq_true rfl, Nat.le_of_ble_eq_true rfl⟩) hS (fun m2 H locs h hh hS => ?_)
  refine lv_aload_n hx hb dX5_isKnown_7 rfl (lv_at hl 0 rfl) ?_
  obtain ⟨g3, h⟩ := h
  obtain ⟨b4, eb4, h⟩ := h
  refine xr_getR (ci := 5) (C := RX5) (T := TX5) (N := 7) hx hb hL5 hown hK hh g3 (by decide) rfl 5 105 rfl rfl (by decide) (by decide) q2 (fun _ h9 => h9) eb4 dX5_isKnown_8 ?_
  refine lv_iload_n hx hb dX5_isKnown_11 rfl (lv_at hl 1 rfl) ?_
  refine lv_iload_n hx hb dX5_isKnown_12 rfl (lv_at hl 2 rfl) ?_
  obtain ⟨g5, h⟩ := h
  refine xc_v (va_runV (As := [.int p1, .int p2]) (rest := []) ⟨hx, hb, hml, hown, hts⟩ (mt_X4_cut l G base h) (cwV 2 hts gX5_isKnown_X4_cut rfl rfl rfl (by decide +kernel) ⟨Nat.le_of_ble_eq_true rfl, Nat.le_of_ble_eq_true rfl⟩) (xp_V hbase hh hK hX hS (ci := 4) g5 (by decide) rfl) rfl rfl hl.1 rfl (lv_room (Nat.le_of_ble_eq_true rfl)) dX5_isKnown_13 ⟨Nat.le_of_ble_eq_true rfl, Nat.le_of_ble_eq_true rfl⟩) hS (fun m7 H locs h hh hS => ?_)
  refine lv_aload_n hx hb dX5_isKnown_16 rfl (lv_at hl 0 rfl) ?_
  obtain ⟨g8, h⟩ := h
  obtain ⟨b9, eb9, h⟩ := h
  refine xr_getR (ci := 5) (C := RX5) (T := TX5) (N := 7) hx hb hL5 hown hK hh g8 (by decide) rfl 5 105 rfl rfl (by decide) (by decide) q2 (fun _ h9 => h9) eb9 dX5_isKnown_17 ?_
  refine lv_aload_n hx hb dX5_isKnown_20 rfl (lv_at hl 0 rfl) ?_
  obtain ⟨g10, h⟩ := h
  obtain ⟨b11, eb11, h⟩ := h
  refine xr_getR (ci := 5) (C := RX5) (T := TX5) (N := 7) hx hb hL5 hown hK hh g10 (by decide) rfl 4 104 rfl rfl (by decide) (by decide) q3 (fun _ h9 => h9) eb11 dX5_isKnown_21 ?_
  obtain ⟨g12, h⟩ := h
  refine xc_i (va_runV (As := [.ref b11]) (rest := []) ⟨hx, hb, hml, hown, hts⟩ (mt_X4_hasExpiredPart l G base h) (cwV 1 hts gX5_isKnown_X4_hasExpiredPart rfl rfl rfl (by decide +kernel) ⟨Nat.le_of_ble_eq_true rfl, Nat.le_of_ble_eq_true rfl⟩) (xp_V hbase hh hK hX hS (ci := 4) g12 (by decide) rfl) rfl rfl hl.1 rfl (lv_room (Nat.le_of_ble_eq_true rfl)) dX5_isKnown_24 ⟨Nat.le_of_ble_eq_true rfl, Nat.le_of_ble_eq_true rfl⟩) hS (fun r13 m14 H locs h hh hS => ?_)
  refine lv_if_ne (tgt := 34) hx hb dX5_isKnown_27 (by decide) (fun c15 => ?_) (fun c15 => ?_)
  · replace h := h.1 c15
    refine lv_iconst (v := 0) hx hb dX5_isKnown_34 (by decide) ?_
    exact (xe_z hx hb hr hlocks hbase hh hK hX hS (Or.inl rfl) h (Nat.le_of_ble_eq_true rfl) (Nat.le_of_ble_eq_true rfl) dX5_isKnown_35)
  · replace h := h.2 c15
    refine lv_iconst (v := 1) hx hb dX5_isKnown_30 (by decide) ?_
    refine lv_goto (tgt := 35) hx hb dX5_isKnown_31 (by decide) ?_
    exact (xe_z hx hb hr hlocks hbase hh hK hX hS (Or.inr rfl) h (Nat.le_of_ble_eq_true rfl) (Nat.le_of_ble_eq_true rfl) dX5_isKnown_35)

set_option maxHeartbeats 4000000 in
set_option maxRecDepth 100000 in
theorem mt_X3_addTo (l : Launch) (G : GG) (base : Nat) {a0 : Nat} {p1 : Nat} {p2 : Nat} {m0 : MM} {Q : MM → Prop} (h : wp_X3_addTo a0 p1 p2 m0 Q) : Met l yX3_addTo wsX3_addTo ({ frames := 3, cells := 0, slots := 0, locals := 117 }) (va_Pc [.ref a0, .ref p1, .ref p2] (SP G base m0)) (va_Qv Q (HB G base) (xA base)) 0 0 (xA base) := by
  refine Met.ofW (cc := cX3_addTo) (maxL := 3) (ret := none) (by decide) rfl ?_
  intro p e s m args below meth c s₁ B hml hv
  obtain ⟨rfl, hbase, hh, hK, hX⟩ := hv
  have C0 : BC p s m _ meth c G base RX3 cX3_addTo 3 none wsX3_addTo := ⟨B.exec, B.bytes, B.returns, hml, findClass_of_methodNamed B.named, atoms_spec (ws := wsX3_addTo) B.pre, B.notSynchronized, hK, hbase, hX⟩
  obtain ⟨hx, hb, hr, -, hown, hts, hlocks, -, -, -⟩ := id C0
  have hS : va_S (xA base) s.heap s.heap [] := va_S.rf
  have hl := lv_entry ([.ref a0, .ref p1, .ref p2]) (n := 3) (Nat.le_of_ble_eq_true rfl)
  rw [lg_entry_eq]
  generalize (lg_sl ([.ref a0, .ref p1, .ref p2]) ++ List.replicate (3 - (lg_sl ([.ref a0, .ref p1, .ref p2])).length) Slot.unset).toArray = ls at hl ⊢
  have hl : lv_has ls 3 [(0, .ref a0), (1, .ref p1), (2, .ref p2)] := hl
  unfold wp_X3_addTo at h
  have hL3 : ∀ w ∈ u_ws RX3 TX3 5, w.before _ s = true := fun w h9 => hts w (List.mem_cons_of_mem _ (List.mem_append_left _ (List.mem_append_left _ (List.mem_append_left _ (List.mem_append_right _ (h9))))))
  have q2 : (Cond.fieldLink RX3 23 "RollupStore$Series" "minutes" "LRollupStore$Rollups;").before _ s = true := hts _ (List.mem_cons_of_mem _ (List.mem_append_left _ (List.mem_append_left _ (List.mem_append_left _ (List.mem_append_left _ (List.mem_append_left _ (List.mem_of_getElem? (i := 0) rfl)))))))
  have hL4 : ∀ w ∈ u_ws RX4 TX4 6, w.before _ s = true := fun w h9 => hts w (List.mem_cons_of_mem _ (List.mem_append_left _ (List.mem_append_left _ (List.mem_append_right _ (h9)))))
  have q4 : (Cond.fieldLink RX3 93 "RollupStore$Window" "from" "I").before _ s = true := hts _ (List.mem_cons_of_mem _ (List.mem_append_left _ (List.mem_append_left _ (List.mem_append_left _ (List.mem_append_left _ (List.mem_append_left _ (List.mem_of_getElem? (i := 1) rfl)))))))
  have q5 : (Cond.fieldLink RX3 98 "RollupStore$Window" "hoursFrom" "I").before _ s = true := hts _ (List.mem_cons_of_mem _ (List.mem_append_left _ (List.mem_append_left _ (List.mem_append_left _ (List.mem_append_left _ (List.mem_append_left _ (List.mem_of_getElem? (i := 2) rfl)))))))
  have q6 : (Cond.fieldLink RX3 27 "RollupStore$Series" "hours" "LRollupStore$Rollups;").before _ s = true := hts _ (List.mem_cons_of_mem _ (List.mem_append_left _ (List.mem_append_left _ (List.mem_append_left _ (List.mem_append_left _ (List.mem_append_left _ (List.mem_of_getElem? (i := 3) rfl)))))))
  have q7 : (Cond.fieldLink RX3 101 "RollupStore$Window" "daysFrom" "I").before _ s = true := hts _ (List.mem_cons_of_mem _ (List.mem_append_left _ (List.mem_append_left _ (List.mem_append_left _ (List.mem_append_left _ (List.mem_append_left _ (List.mem_of_getElem? (i := 4) rfl)))))))
  have q8 : (Cond.fieldLink RX3 31 "RollupStore$Series" "days" "LRollupStore$Rollups;").before _ s = true := hts _ (List.mem_cons_of_mem _ (List.mem_append_left _ (List.mem_append_left _ (List.mem_append_left _ (List.mem_append_left _ (List.mem_append_left _ (List.mem_of_getElem? (i := 5) rfl)))))))
  have q9 : (Cond.fieldLink RX3 104 "RollupStore$Window" "daysTo" "I").before _ s = true := hts _ (List.mem_cons_of_mem _ (List.mem_append_left _ (List.mem_append_left _ (List.mem_append_left _ (List.mem_append_left _ (List.mem_append_left _ (List.mem_of_getElem? (i := 6) rfl)))))))
  have q10 : (Cond.fieldLink RX3 107 "RollupStore$Window" "hoursTo" "I").before _ s = true := hts _ (List.mem_cons_of_mem _ (List.mem_append_left _ (List.mem_append_left _ (List.mem_append_left _ (List.mem_append_left _ (List.mem_append_left _ (List.mem_of_getElem? (i := 7) rfl)))))))
  have q11 : (Cond.fieldLink RX3 110 "RollupStore$Window" "to" "I").before _ s = true := hts _ (List.mem_cons_of_mem _ (List.mem_append_left _ (List.mem_append_left _ (List.mem_append_left _ (List.mem_append_left _ (List.mem_append_left _ (List.mem_of_getElem? (i := 8) rfl)))))))
  refine lv_aload_n hx hb dX3_addTo_0 rfl (lv_at hl 0 rfl) ?_
  obtain ⟨g1, h⟩ := h
  obtain ⟨b2, eb2, h⟩ := h
  refine xr_getR (ci := 3) (C := RX3) (T := TX3) (N := 5) hx hb hL3 hown hK hh g1 (by decide) rfl 2 62 rfl rfl (by decide) (by decide) q2 (fun _ h9 => h9) eb2 dX3_addTo_1 ?_
  refine lv_aload_n hx hb dX3_addTo_4 rfl (lv_at hl 1 rfl) ?_
  refine lv_aload_n hx hb dX3_addTo_5 rfl (lv_at hl 2 rfl) ?_
  obtain ⟨g3, h⟩ := h
  refine xr_getI (ci := 4) (C := RX4) (T := TX4) (N := 6) hx hb hL4 hown hK hh g3 (by decide) rfl 0 80 rfl rfl (by decide) (by decide) q4 (fun _ h9 => h9) dX3_addTo_6 ?_
  refine lv_aload_n hx hb dX3_addTo_9 rfl (lv_at hl 2 rfl) ?_
  obtain ⟨g4, h⟩ := h
  refine xr_getI (ci := 4) (C := RX4) (T := TX4) (N := 6) hx hb hL4 hown hK hh g4 (by decide) rfl 1 81 rfl rfl (by decide) (by decide) q5 (fun _ h9 => h9) dX3_addTo_10 ?_
  obtain ⟨g5, h⟩ := h
  refine xc_v (va_runV (As := [.ref p1, .int (mI m0 80 p2), .int (mI m0 81 p2)]) (rest := []) ⟨hx, hb, hml, hown, hts⟩ (mt_X2_addTo l G base h) (cwV 3 hts gX3_addTo_X2_addTo rfl rfl rfl (by decide +kernel) ⟨Nat.le_of_ble_eq_true rfl, Nat.le_of_ble_eq_true rfl⟩) (xp_V hbase hh hK hX hS (ci := 2) g5 (by decide) rfl) rfl rfl hl.1 rfl (lv_room (Nat.le_of_ble_eq_true rfl)) dX3_addTo_13 ⟨Nat.le_of_ble_eq_true rfl, Nat.le_of_ble_eq_true rfl⟩) hS (fun m7 H locs h hh hS => ?_)
  refine lv_aload_n hx hb dX3_addTo_16 rfl (lv_at hl 0 rfl) ?_
  obtain ⟨g8, h⟩ := h
  obtain ⟨b9, eb9, h⟩ := h
  refine xr_getR (ci := 3) (C := RX3) (T := TX3) (N := 5) hx hb hL3 hown hK hh g8 (by decide) rfl 3 63 rfl rfl (by decide) (by decide) q6 (fun _ h9 => h9) eb9 dX3_addTo_17 ?_
  refine lv_aload_n hx hb dX3_addTo_20 rfl (lv_at hl 1 rfl) ?_
  refine lv_aload_n hx hb dX3_addTo_21 rfl (lv_at hl 2 rfl) ?_
  obtain ⟨g10, h⟩ := h
  refine xr_getI (ci := 4) (C := RX4) (T := TX4) (N := 6) hx hb hL4 hown hK hh g10 (by decide) rfl 1 81 rfl rfl (by decide) (by decide) q5 (fun _ h9 => h9) dX3_addTo_22 ?_
  refine lv_aload_n hx hb dX3_addTo_25 rfl (lv_at hl 2 rfl) ?_
  obtain ⟨g11, h⟩ := h
  refine xr_getI (ci := 4) (C := RX4) (T := TX4) (N := 6) hx hb hL4 hown hK hh g11 (by decide) rfl 2 82 rfl rfl (by decide) (by decide) q7 (fun _ h9 => h9) dX3_addTo_26 ?_
  obtain ⟨g12, h⟩ := h
  refine xc_v (va_runV (As := [.ref p1, .int (mI m7 81 p2), .int (mI m7 82 p2)]) (rest := []) ⟨hx, hb, hml, hown, hts⟩ (mt_X2_addTo l G base h) (cwV 3 hts gX3_addTo_X2_addTo rfl rfl rfl (by decide +kernel) ⟨Nat.le_of_ble_eq_true rfl, Nat.le_of_ble_eq_true rfl⟩) (xp_V hbase hh hK hX hS (ci := 2) g12 (by decide) rfl) rfl rfl hl.1 rfl (lv_room (Nat.le_of_ble_eq_true rfl)) dX3_addTo_29 ⟨Nat.le_of_ble_eq_true rfl, Nat.le_of_ble_eq_true rfl⟩) hS (fun m14 H locs h hh hS => ?_)
  refine lv_aload_n hx hb dX3_addTo_32 rfl (lv_at hl 0 rfl) ?_
  obtain ⟨g15, h⟩ := h
  obtain ⟨b16, eb16, h⟩ := h
  refine xr_getR (ci := 3) (C := RX3) (T := TX3) (N := 5) hx hb hL3 hown hK hh g15 (by decide) rfl 4 64 rfl rfl (by decide) (by decide) q8 (fun _ h9 => h9) eb16 dX3_addTo_33 ?_
  refine lv_aload_n hx hb dX3_addTo_36 rfl (lv_at hl 1 rfl) ?_
  refine lv_aload_n hx hb dX3_addTo_37 rfl (lv_at hl 2 rfl) ?_
  obtain ⟨g17, h⟩ := h
  refine xr_getI (ci := 4) (C := RX4) (T := TX4) (N := 6) hx hb hL4 hown hK hh g17 (by decide) rfl 2 82 rfl rfl (by decide) (by decide) q7 (fun _ h9 => h9) dX3_addTo_38 ?_
  refine lv_aload_n hx hb dX3_addTo_41 rfl (lv_at hl 2 rfl) ?_
  obtain ⟨g18, h⟩ := h
  refine xr_getI (ci := 4) (C := RX4) (T := TX4) (N := 6) hx hb hL4 hown hK hh g18 (by decide) rfl 3 83 rfl rfl (by decide) (by decide) q9 (fun _ h9 => h9) dX3_addTo_42 ?_
  obtain ⟨g19, h⟩ := h
  refine xc_v (va_runV (As := [.ref p1, .int (mI m14 82 p2), .int (mI m14 83 p2)]) (rest := []) ⟨hx, hb, hml, hown, hts⟩ (mt_X2_addTo l G base h) (cwV 3 hts gX3_addTo_X2_addTo rfl rfl rfl (by decide +kernel) ⟨Nat.le_of_ble_eq_true rfl, Nat.le_of_ble_eq_true rfl⟩) (xp_V hbase hh hK hX hS (ci := 2) g19 (by decide) rfl) rfl rfl hl.1 rfl (lv_room (Nat.le_of_ble_eq_true rfl)) dX3_addTo_45 ⟨Nat.le_of_ble_eq_true rfl, Nat.le_of_ble_eq_true rfl⟩) hS (fun m21 H locs h hh hS => ?_)
  refine lv_aload_n hx hb dX3_addTo_48 rfl (lv_at hl 0 rfl) ?_
  obtain ⟨g22, h⟩ := h
  obtain ⟨b23, eb23, h⟩ := h
  refine xr_getR (ci := 3) (C := RX3) (T := TX3) (N := 5) hx hb hL3 hown hK hh g22 (by decide) rfl 3 63 rfl rfl (by decide) (by decide) q6 (fun _ h9 => h9) eb23 dX3_addTo_49 ?_
  refine lv_aload_n hx hb dX3_addTo_52 rfl (lv_at hl 1 rfl) ?_
  refine lv_aload_n hx hb dX3_addTo_53 rfl (lv_at hl 2 rfl) ?_
  obtain ⟨g24, h⟩ := h
  refine xr_getI (ci := 4) (C := RX4) (T := TX4) (N := 6) hx hb hL4 hown hK hh g24 (by decide) rfl 3 83 rfl rfl (by decide) (by decide) q9 (fun _ h9 => h9) dX3_addTo_54 ?_
  refine lv_aload_n hx hb dX3_addTo_57 rfl (lv_at hl 2 rfl) ?_
  obtain ⟨g25, h⟩ := h
  refine xr_getI (ci := 4) (C := RX4) (T := TX4) (N := 6) hx hb hL4 hown hK hh g25 (by decide) rfl 4 84 rfl rfl (by decide) (by decide) q10 (fun _ h9 => h9) dX3_addTo_58 ?_
  obtain ⟨g26, h⟩ := h
  refine xc_v (va_runV (As := [.ref p1, .int (mI m21 83 p2), .int (mI m21 84 p2)]) (rest := []) ⟨hx, hb, hml, hown, hts⟩ (mt_X2_addTo l G base h) (cwV 3 hts gX3_addTo_X2_addTo rfl rfl rfl (by decide +kernel) ⟨Nat.le_of_ble_eq_true rfl, Nat.le_of_ble_eq_true rfl⟩) (xp_V hbase hh hK hX hS (ci := 2) g26 (by decide) rfl) rfl rfl hl.1 rfl (lv_room (Nat.le_of_ble_eq_true rfl)) dX3_addTo_61 ⟨Nat.le_of_ble_eq_true rfl, Nat.le_of_ble_eq_true rfl⟩) hS (fun m28 H locs h hh hS => ?_)
  refine lv_aload_n hx hb dX3_addTo_64 rfl (lv_at hl 0 rfl) ?_
  obtain ⟨g29, h⟩ := h
  obtain ⟨b30, eb30, h⟩ := h
  refine xr_getR (ci := 3) (C := RX3) (T := TX3) (N := 5) hx hb hL3 hown hK hh g29 (by decide) rfl 2 62 rfl rfl (by decide) (by decide) q2 (fun _ h9 => h9) eb30 dX3_addTo_65 ?_
  refine lv_aload_n hx hb dX3_addTo_68 rfl (lv_at hl 1 rfl) ?_
  refine lv_aload_n hx hb dX3_addTo_69 rfl (lv_at hl 2 rfl) ?_
  obtain ⟨g31, h⟩ := h
  refine xr_getI (ci := 4) (C := RX4) (T := TX4) (N := 6) hx hb hL4 hown hK hh g31 (by decide) rfl 4 84 rfl rfl (by decide) (by decide) q10 (fun _ h9 => h9) dX3_addTo_70 ?_
  refine lv_aload_n hx hb dX3_addTo_73 rfl (lv_at hl 2 rfl) ?_
  obtain ⟨g32, h⟩ := h
  refine xr_getI (ci := 4) (C := RX4) (T := TX4) (N := 6) hx hb hL4 hown hK hh g32 (by decide) rfl 5 85 rfl rfl (by decide) (by decide) q11 (fun _ h9 => h9) dX3_addTo_74 ?_
  obtain ⟨g33, h⟩ := h
  refine xc_v (va_runV (As := [.ref p1, .int (mI m28 84 p2), .int (mI m28 85 p2)]) (rest := []) ⟨hx, hb, hml, hown, hts⟩ (mt_X2_addTo l G base h) (cwV 3 hts gX3_addTo_X2_addTo rfl rfl rfl (by decide +kernel) ⟨Nat.le_of_ble_eq_true rfl, Nat.le_of_ble_eq_true rfl⟩) (xp_V hbase hh hK hX hS (ci := 2) g33 (by decide) rfl) rfl rfl hl.1 rfl (lv_room (Nat.le_of_ble_eq_true rfl)) dX3_addTo_77 ⟨Nat.le_of_ble_eq_true rfl, Nat.le_of_ble_eq_true rfl⟩) hS (fun m35 H locs h hh hS => ?_)
  exact (xe_v hx hb hr hlocks hbase hh hK hX hS h (Nat.le_of_ble_eq_true rfl) (Nat.le_of_ble_eq_true rfl) dX3_addTo_80)

set_option maxHeartbeats 4000000 in
set_option maxRecDepth 100000 in
theorem mt_X5_summarize (l : Launch) (hl9 : l.stackTraces = false) (G : GG) (base : Nat) {a0 : Nat} {p1 : Nat} {p2 : Int32} {p3 : Int32} {m0 : MM} {Q : MM → Prop} {X : Nat → MM → Prop} (h : wp_X5_summarize a0 p1 p2 p3 m0 Q X) : vx_Met l yX5_summarize wsX5_summarize ({ frames := 6, cells := 1, slots := 6, locals := 139 }) (va_Pc [.ref a0, .ref p1, .int p2, .int p3] (SP G base m0)) (va_Qv Q (HB G base) (xA base)) (xX G base X) 1 6 (xA base) := by
  refine vx_ofW (cc := cX5_summarize) (maxL := 4) (ret := none) (by decide) rfl ?_
  intro p e s m args below meth c s₁ B hml hout hv
  obtain ⟨rfl, hbase, hh, hK, hX⟩ := hv
  have C0 : BC p s m _ meth c G base RX5 cX5_summarize 4 none wsX5_summarize := ⟨B.exec, B.bytes, B.returns, hml, findClass_of_methodNamed B.named, atoms_spec (ws := wsX5_summarize) B.pre, B.notSynchronized, hK, hbase, hX⟩
  obtain ⟨hx, hb, hr, -, hown, hts, hlocks, -, -, -⟩ := id C0
  have hS : va_S (xA base) s.heap s.heap [] := va_S.rf
  have hl := lv_entry ([.ref a0, .ref p1, .int p2, .int p3]) (n := 4) (Nat.le_of_ble_eq_true rfl)
  rw [lg_entry_eq]
  generalize (lg_sl ([.ref a0, .ref p1, .int p2, .int p3]) ++ List.replicate (4 - (lg_sl ([.ref a0, .ref p1, .int p2, .int p3])).length) Slot.unset).toArray = ls at hl ⊢
  have hl : lv_has ls 4 [(0, .ref a0), (1, .ref p1), (2, .int p2), (3, .int p3)] := hl
  unfold wp_X5_summarize at h
  have hL5 : ∀ w ∈ u_ws RX5 TX5 7, w.before _ s = true := fun w h9 => hts w (List.mem_cons_of_mem _ (List.mem_append_left _ (List.mem_append_left _ (List.mem_append_left _ (List.mem_append_left _ (List.mem_append_left _ (List.mem_append_right _ (h9))))))))
  have q2 : (Cond.fieldLink RX5 28 "RollupStore" "window" "LRollupStore$Window;").before _ s = true := hts _ (List.mem_cons_of_mem _ (List.mem_append_left _ (List.mem_append_left _ (List.mem_append_left _ (List.mem_append_left _ (List.mem_append_left _ (List.mem_append_left _ (List.mem_append_left _ (List.mem_of_getElem? (i := 2) rfl)))))))))
  have q3 : (Cond.fieldLink RX5 22 "RollupStore" "horizon" "[I").before _ s = true := hts _ (List.mem_cons_of_mem _ (List.mem_append_left _ (List.mem_append_left _ (List.mem_append_left _ (List.mem_append_left _ (List.mem_append_left _ (List.mem_append_left _ (List.mem_append_left _ (List.mem_of_getElem? (i := 3) rfl)))))))))
  have q4 : (Cond.fieldLink RX5 35 "RollupStore" "summary" "LRollupStore$Rollup;").before _ s = true := hts _ (List.mem_cons_of_mem _ (List.mem_append_left _ (List.mem_append_left _ (List.mem_append_left _ (List.mem_append_left _ (List.mem_append_left _ (List.mem_append_left _ (List.mem_append_left _ (List.mem_of_getElem? (i := 4) rfl)))))))))
  have hW2 : ∀ w ∈ (vx_atS RX5 51 "java/lang/IllegalStateException" ["java/lang/RuntimeException", "java/lang/Exception"]).filter goodWord, w.before _ s = true := fun w h9 => hts w (List.mem_cons_of_mem _ (List.mem_append_right _ (h9)))
  have q6 : (Cond.classLink RX5 47 "java/lang/IllegalStateException").before _ s = true := hts _ (List.mem_cons_of_mem _ (List.mem_append_left _ (List.mem_append_left _ (List.mem_append_left _ (List.mem_append_left _ (List.mem_append_left _ (List.mem_append_left _ (List.mem_append_left _ (List.mem_of_getElem? (i := 0) rfl)))))))))
  have q7 : (Cond.initialized "java/lang/IllegalStateException").before _ s = true := hts _ (List.mem_cons_of_mem _ (List.mem_append_left _ (List.mem_append_left _ (List.mem_append_left _ (List.mem_append_left _ (List.mem_append_left _ (List.mem_append_left _ (List.mem_append_left _ (List.mem_of_getElem? (i := 1) rfl)))))))))
  refine lv_aload_n hx hb dX5_summarize_0 rfl (lv_at hl 0 rfl) ?_
  obtain ⟨g1, h⟩ := h
  obtain ⟨b2, eb2, h⟩ := h
  refine xr_getR (ci := 5) (C := RX5) (T := TX5) (N := 7) hx hb hL5 hown hK hh g1 (by decide) rfl 5 105 rfl rfl (by decide) (by decide) q2 (fun _ h9 => h9) eb2 dX5_summarize_1 ?_
  refine lv_iload_n hx hb dX5_summarize_4 rfl (lv_at hl 2 rfl) ?_
  refine lv_iload_n hx hb dX5_summarize_5 rfl (lv_at hl 3 rfl) ?_
  obtain ⟨g3, h⟩ := h
  refine xc_v (va_runV (As := [.int p2, .int p3]) (rest := []) ⟨hx, hb, hml, hown, hts⟩ (mt_X4_cut l G base h) (cwV 2 hts gX5_summarize_X4_cut rfl rfl rfl (by decide +kernel) ⟨Nat.le_of_ble_eq_true rfl, Nat.le_of_ble_eq_true rfl⟩) (xp_V hbase hh hK hX hS (ci := 4) g3 (by decide) rfl) rfl rfl hl.1 rfl (lv_room (Nat.le_of_ble_eq_true rfl)) dX5_summarize_6 ⟨Nat.le_of_ble_eq_true rfl, Nat.le_of_ble_eq_true rfl⟩) hS (fun m5 H locs h hh hS => ?_)
  refine lv_aload_n hx hb dX5_summarize_9 rfl (lv_at hl 0 rfl) ?_
  obtain ⟨g6, h⟩ := h
  obtain ⟨b7, eb7, h⟩ := h
  refine xr_getR (ci := 5) (C := RX5) (T := TX5) (N := 7) hx hb hL5 hown hK hh g6 (by decide) rfl 5 105 rfl rfl (by decide) (by decide) q2 (fun _ h9 => h9) eb7 dX5_summarize_10 ?_
  refine lv_aload_n hx hb dX5_summarize_13 rfl (lv_at hl 0 rfl) ?_
  obtain ⟨g8, h⟩ := h
  obtain ⟨b9, eb9, h⟩ := h
  refine xr_getR (ci := 5) (C := RX5) (T := TX5) (N := 7) hx hb hL5 hown hK hh g8 (by decide) rfl 4 104 rfl rfl (by decide) (by decide) q3 (fun _ h9 => h9) eb9 dX5_summarize_14 ?_
  obtain ⟨g10, h⟩ := h
  refine xc_i (va_runV (As := [.ref b9]) (rest := []) ⟨hx, hb, hml, hown, hts⟩ (mt_X4_hasExpiredPart l G base h) (cwV 1 hts gX5_summarize_X4_hasExpiredPart rfl rfl rfl (by decide +kernel) ⟨Nat.le_of_ble_eq_true rfl, Nat.le_of_ble_eq_true rfl⟩) (xp_V hbase hh hK hX hS (ci := 4) g10 (by decide) rfl) rfl rfl hl.1 rfl (lv_room (Nat.le_of_ble_eq_true rfl)) dX5_summarize_17 ⟨Nat.le_of_ble_eq_true rfl, Nat.le_of_ble_eq_true rfl⟩) hS (fun r11 m12 H locs h hh hS => ?_)
  refine lv_if_eq (tgt := 34) hx hb dX5_summarize_20 (by decide) (fun c13 => ?_) (fun c13 => ?_)
  · replace h := h.1 c13
    refine lv_aload_n hx hb dX5_summarize_34 rfl (lv_at hl 0 rfl) ?_
    obtain ⟨g14, h⟩ := h
    obtain ⟨b15, eb15, h⟩ := h
    refine xr_getR (ci := 5) (C := RX5) (T := TX5) (N := 7) hx hb hL5 hown hK hh g14 (by decide) rfl 6 106 rfl rfl (by decide) (by decide) q4 (fun _ h9 => h9) eb15 dX5_summarize_35 ?_
    obtain ⟨g16, h⟩ := h
    refine xc_v (va_runV (As := []) (rest := []) ⟨hx, hb, hml, hown, hts⟩ (mt_X1_clear l G base h) (cwV 0 hts gX5_summarize_X1_clear rfl rfl rfl (by decide +kernel) ⟨Nat.le_of_ble_eq_true rfl, Nat.le_of_ble_eq_true rfl⟩) (xp_V hbase hh hK hX hS (ci := 1) g16 (by decide) rfl) rfl rfl hl.1 rfl (lv_room (Nat.le_of_ble_eq_true rfl)) dX5_summarize_38 ⟨Nat.le_of_ble_eq_true rfl, Nat.le_of_ble_eq_true rfl⟩) hS (fun m18 H locs h hh hS => ?_)
    refine lv_aload_n hx hb dX5_summarize_41 rfl (lv_at hl 1 rfl) ?_
    refine lv_aload_n hx hb dX5_summarize_42 rfl (lv_at hl 0 rfl) ?_
    obtain ⟨g19, h⟩ := h
    obtain ⟨b20, eb20, h⟩ := h
    refine xr_getR (ci := 5) (C := RX5) (T := TX5) (N := 7) hx hb hL5 hown hK hh g19 (by decide) rfl 6 106 rfl rfl (by decide) (by decide) q4 (fun _ h9 => h9) eb20 dX5_summarize_43 ?_
    refine lv_aload_n hx hb dX5_summarize_46 rfl (lv_at hl 0 rfl) ?_
    obtain ⟨g21, h⟩ := h
    obtain ⟨b22, eb22, h⟩ := h
    refine xr_getR (ci := 5) (C := RX5) (T := TX5) (N := 7) hx hb hL5 hown hK hh g21 (by decide) rfl 5 105 rfl rfl (by decide) (by decide) q2 (fun _ h9 => h9) eb22 dX5_summarize_47 ?_
    obtain ⟨g23, h⟩ := h
    refine xc_v (va_runV (As := [.ref b20, .ref b22]) (rest := []) ⟨hx, hb, hml, hown, hts⟩ (mt_X3_addTo l G base h) (cwV 2 hts gX5_summarize_X3_addTo rfl rfl rfl (by decide +kernel) ⟨Nat.le_of_ble_eq_true rfl, Nat.le_of_ble_eq_true rfl⟩) (xp_V hbase hh hK hX hS (ci := 3) g23 (by decide) rfl) rfl rfl hl.1 rfl (lv_room (Nat.le_of_ble_eq_true rfl)) dX5_summarize_50 ⟨Nat.le_of_ble_eq_true rfl, Nat.le_of_ble_eq_true rfl⟩) hS (fun m25 H locs h hh hS => ?_)
    exact vx_ret (xe_v hx hb hr hlocks hbase hh hK hX hS h (Nat.le_of_ble_eq_true rfl) (Nat.le_of_ble_eq_true rfl) dX5_summarize_53)
  · replace h := h.2 c13
    exact xe_throw2W (text := "the window is not known") (is := 266) hx hb hl9 hout hlocks hbase hh hX hS hown q6 q7 hW2 (List.mem_of_getElem? (i := 14) rfl) (hl.1.trans hml.symm) dX5_summarize_23 dX5_summarize_26 dX5_summarize_27 dX5_summarize_30 dX5_summarize_33 (Nat.le_of_ble_eq_true rfl) (Nat.le_of_ble_eq_true rfl) (Nat.le_of_ble_eq_true rfl) (Nat.le_of_ble_eq_true rfl) h (Nat.le_of_ble_eq_true rfl) (Nat.le_of_ble_eq_true rfl)

set_option maxHeartbeats 4000000 in
set_option maxRecDepth 100000 in
theorem mtq_X5_summarize (l : Launch) (G : GG) (base : Nat) {a0 : Nat} {p1 : Nat} {p2 : Int32} {p3 : Int32} {m0 : MM} {Q : MM → Prop} (h : wp_X5_summarize a0 p1 p2 p3 m0 Q (fun _ _ => False)) : Met l yX5_summarize wsX5_summarize ({ frames := 6, cells := 0, slots := 0, locals := 139 }) (va_Pc [.ref a0, .ref p1, .int p2, .int p3] (SP G base m0)) (va_Qv Q (HB G base) (xA base)) 0 0 (xA base) := by
  refine Met.ofW (cc := cX5_summarize) (maxL := 4) (ret := none) (by decide) rfl ?_
  intro p e s m args below meth c s₁ B hml hv
  obtain ⟨rfl, hbase, hh, hK, hX⟩ := hv
  have C0 : BC p s m _ meth c G base RX5 cX5_summarize 4 none wsX5_summarize := ⟨B.exec, B.bytes, B.returns, hml, findClass_of_methodNamed B.named, atoms_spec (ws := wsX5_summarize) B.pre, B.notSynchronized, hK, hbase, hX⟩
  obtain ⟨hx, hb, hr, -, hown, hts, hlocks, -, -, -⟩ := id C0
  have hS : va_S (xA base) s.heap s.heap [] := va_S.rf
  have hl := lv_entry ([.ref a0, .ref p1, .int p2, .int p3]) (n := 4) (Nat.le_of_ble_eq_true rfl)
  rw [lg_entry_eq]
  generalize (lg_sl ([.ref a0, .ref p1, .int p2, .int p3]) ++ List.replicate (4 - (lg_sl ([.ref a0, .ref p1, .int p2, .int p3])).length) Slot.unset).toArray = ls at hl ⊢
  have hl : lv_has ls 4 [(0, .ref a0), (1, .ref p1), (2, .int p2), (3, .int p3)] := hl
  unfold wp_X5_summarize at h
  have hL5 : ∀ w ∈ u_ws RX5 TX5 7, w.before _ s = true := fun w h9 => hts w (List.mem_cons_of_mem _ (List.mem_append_left _ (List.mem_append_left _ (List.mem_append_left _ (List.mem_append_left _ (List.mem_append_left _ (List.mem_append_right _ (h9))))))))
  have q2 : (Cond.fieldLink RX5 28 "RollupStore" "window" "LRollupStore$Window;").before _ s = true := hts _ (List.mem_cons_of_mem _ (List.mem_append_left _ (List.mem_append_left _ (List.mem_append_left _ (List.mem_append_left _ (List.mem_append_left _ (List.mem_append_left _ (List.mem_append_left _ (List.mem_of_getElem? (i := 2) rfl)))))))))
  have q3 : (Cond.fieldLink RX5 22 "RollupStore" "horizon" "[I").before _ s = true := hts _ (List.mem_cons_of_mem _ (List.mem_append_left _ (List.mem_append_left _ (List.mem_append_left _ (List.mem_append_left _ (List.mem_append_left _ (List.mem_append_left _ (List.mem_append_left _ (List.mem_of_getElem? (i := 3) rfl)))))))))
  have q4 : (Cond.fieldLink RX5 35 "RollupStore" "summary" "LRollupStore$Rollup;").before _ s = true := hts _ (List.mem_cons_of_mem _ (List.mem_append_left _ (List.mem_append_left _ (List.mem_append_left _ (List.mem_append_left _ (List.mem_append_left _ (List.mem_append_left _ (List.mem_append_left _ (List.mem_of_getElem? (i := 4) rfl)))))))))
  refine lv_aload_n hx hb dX5_summarize_0 rfl (lv_at hl 0 rfl) ?_
  obtain ⟨g1, h⟩ := h
  obtain ⟨b2, eb2, h⟩ := h
  refine xr_getR (ci := 5) (C := RX5) (T := TX5) (N := 7) hx hb hL5 hown hK hh g1 (by decide) rfl 5 105 rfl rfl (by decide) (by decide) q2 (fun _ h9 => h9) eb2 dX5_summarize_1 ?_
  refine lv_iload_n hx hb dX5_summarize_4 rfl (lv_at hl 2 rfl) ?_
  refine lv_iload_n hx hb dX5_summarize_5 rfl (lv_at hl 3 rfl) ?_
  obtain ⟨g3, h⟩ := h
  refine xc_v (va_runV (As := [.int p2, .int p3]) (rest := []) ⟨hx, hb, hml, hown, hts⟩ (mt_X4_cut l G base h) (cwV 2 hts gX5_summarize_X4_cut rfl rfl rfl (by decide +kernel) ⟨Nat.le_of_ble_eq_true rfl, Nat.le_of_ble_eq_true rfl⟩) (xp_V hbase hh hK hX hS (ci := 4) g3 (by decide) rfl) rfl rfl hl.1 rfl (lv_room (Nat.le_of_ble_eq_true rfl)) dX5_summarize_6 ⟨Nat.le_of_ble_eq_true rfl, Nat.le_of_ble_eq_true rfl⟩) hS (fun m5 H locs h hh hS => ?_)
  refine lv_aload_n hx hb dX5_summarize_9 rfl (lv_at hl 0 rfl) ?_
  obtain ⟨g6, h⟩ := h
  obtain ⟨b7, eb7, h⟩ := h
  refine xr_getR (ci := 5) (C := RX5) (T := TX5) (N := 7) hx hb hL5 hown hK hh g6 (by decide) rfl 5 105 rfl rfl (by decide) (by decide) q2 (fun _ h9 => h9) eb7 dX5_summarize_10 ?_
  refine lv_aload_n hx hb dX5_summarize_13 rfl (lv_at hl 0 rfl) ?_
  obtain ⟨g8, h⟩ := h
  obtain ⟨b9, eb9, h⟩ := h
  refine xr_getR (ci := 5) (C := RX5) (T := TX5) (N := 7) hx hb hL5 hown hK hh g8 (by decide) rfl 4 104 rfl rfl (by decide) (by decide) q3 (fun _ h9 => h9) eb9 dX5_summarize_14 ?_
  obtain ⟨g10, h⟩ := h
  refine xc_i (va_runV (As := [.ref b9]) (rest := []) ⟨hx, hb, hml, hown, hts⟩ (mt_X4_hasExpiredPart l G base h) (cwV 1 hts gX5_summarize_X4_hasExpiredPart rfl rfl rfl (by decide +kernel) ⟨Nat.le_of_ble_eq_true rfl, Nat.le_of_ble_eq_true rfl⟩) (xp_V hbase hh hK hX hS (ci := 4) g10 (by decide) rfl) rfl rfl hl.1 rfl (lv_room (Nat.le_of_ble_eq_true rfl)) dX5_summarize_17 ⟨Nat.le_of_ble_eq_true rfl, Nat.le_of_ble_eq_true rfl⟩) hS (fun r11 m12 H locs h hh hS => ?_)
  refine lv_if_eq (tgt := 34) hx hb dX5_summarize_20 (by decide) (fun c13 => ?_) (fun c13 => ?_)
  · replace h := h.1 c13
    refine lv_aload_n hx hb dX5_summarize_34 rfl (lv_at hl 0 rfl) ?_
    obtain ⟨g14, h⟩ := h
    obtain ⟨b15, eb15, h⟩ := h
    refine xr_getR (ci := 5) (C := RX5) (T := TX5) (N := 7) hx hb hL5 hown hK hh g14 (by decide) rfl 6 106 rfl rfl (by decide) (by decide) q4 (fun _ h9 => h9) eb15 dX5_summarize_35 ?_
    obtain ⟨g16, h⟩ := h
    refine xc_v (va_runV (As := []) (rest := []) ⟨hx, hb, hml, hown, hts⟩ (mt_X1_clear l G base h) (cwV 0 hts gX5_summarize_X1_clear rfl rfl rfl (by decide +kernel) ⟨Nat.le_of_ble_eq_true rfl, Nat.le_of_ble_eq_true rfl⟩) (xp_V hbase hh hK hX hS (ci := 1) g16 (by decide) rfl) rfl rfl hl.1 rfl (lv_room (Nat.le_of_ble_eq_true rfl)) dX5_summarize_38 ⟨Nat.le_of_ble_eq_true rfl, Nat.le_of_ble_eq_true rfl⟩) hS (fun m18 H locs h hh hS => ?_)
    refine lv_aload_n hx hb dX5_summarize_41 rfl (lv_at hl 1 rfl) ?_
    refine lv_aload_n hx hb dX5_summarize_42 rfl (lv_at hl 0 rfl) ?_
    obtain ⟨g19, h⟩ := h
    obtain ⟨b20, eb20, h⟩ := h
    refine xr_getR (ci := 5) (C := RX5) (T := TX5) (N := 7) hx hb hL5 hown hK hh g19 (by decide) rfl 6 106 rfl rfl (by decide) (by decide) q4 (fun _ h9 => h9) eb20 dX5_summarize_43 ?_
    refine lv_aload_n hx hb dX5_summarize_46 rfl (lv_at hl 0 rfl) ?_
    obtain ⟨g21, h⟩ := h
    obtain ⟨b22, eb22, h⟩ := h
    refine xr_getR (ci := 5) (C := RX5) (T := TX5) (N := 7) hx hb hL5 hown hK hh g21 (by decide) rfl 5 105 rfl rfl (by decide) (by decide) q2 (fun _ h9 => h9) eb22 dX5_summarize_47 ?_
    obtain ⟨g23, h⟩ := h
    refine xc_v (va_runV (As := [.ref b20, .ref b22]) (rest := []) ⟨hx, hb, hml, hown, hts⟩ (mt_X3_addTo l G base h) (cwV 2 hts gX5_summarize_X3_addTo rfl rfl rfl (by decide +kernel) ⟨Nat.le_of_ble_eq_true rfl, Nat.le_of_ble_eq_true rfl⟩) (xp_V hbase hh hK hX hS (ci := 3) g23 (by decide) rfl) rfl rfl hl.1 rfl (lv_room (Nat.le_of_ble_eq_true rfl)) dX5_summarize_50 ⟨Nat.le_of_ble_eq_true rfl, Nat.le_of_ble_eq_true rfl⟩) hS (fun m25 H locs h hh hS => ?_)
    exact (xe_v hx hb hr hlocks hbase hh hK hX hS h (Nat.le_of_ble_eq_true rfl) (Nat.le_of_ble_eq_true rfl) dX5_summarize_53)
  · replace h := h.2 c13
    exact h.elim

set_option maxHeartbeats 4000000 in
set_option maxRecDepth 100000 in
theorem mt_X5_total (l : Launch) (hl9 : l.stackTraces = false) (G : GG) (base : Nat) {a0 : Nat} {p1 : Int32} {p2 : Int32} {p3 : Int32} {m0 : MM} {Q : Int64 → MM → Prop} {X : Nat → MM → Prop} (h : wp_X5_total a0 p1 p2 p3 m0 Q X) : vx_Met l yX5_total wsX5_total ({ frames := 7, cells := 3, slots := 18, locals := 162 }) (va_Pc [.ref a0, .int p1, .int p2, .int p3] (SP G base m0)) (va_Ql Q (HB G base) (xA base)) (xX G base X) 3 18 (xA base) := by
  refine vx_ofW (cc := cX5_total) (maxL := 5) (ret := (some .long)) (by decide) rfl ?_
  intro p e s m args below meth c s₁ B hml hout hv
  obtain ⟨rfl, hbase, hh, hK, hX⟩ := hv
  have C0 : BC p s m _ meth c G base RX5 cX5_total 5 (some .long) wsX5_total := ⟨B.exec, B.bytes, B.returns, hml, findClass_of_methodNamed B.named, atoms_spec (ws := wsX5_total) B.pre, B.notSynchronized, hK, hbase, hX⟩
  obtain ⟨hx, hb, hr, -, hown, hts, hlocks, -, -, -⟩ := id C0
  have hS : va_S (xA base) s.heap s.heap [] := va_S.rf
  have hl := lv_entry ([.ref a0, .int p1, .int p2, .int p3]) (n := 5) (Nat.le_of_ble_eq_true rfl)
  rw [lg_entry_eq]
  generalize (lg_sl ([.ref a0, .int p1, .int p2, .int p3]) ++ List.replicate (5 - (lg_sl ([.ref a0, .int p1, .int p2, .int p3])).length) Slot.unset).toArray = ls at hl ⊢
  have hl : lv_has ls 5 [(0, .ref a0), (1, .int p1), (2, .int p2), (3, .int p3)] := hl
  unfold wp_X5_total at h
  have hL5 : ∀ w ∈ u_ws RX5 TX5 7, w.before _ s = true := fun w h9 => hts w (List.mem_cons_of_mem _ (List.mem_append_left _ (List.mem_append_left _ (List.mem_append_left _ (List.mem_append_left _ (List.mem_append_left _ (List.mem_append_left _ (List.mem_append_left _ (List.mem_append_right _ (h9))))))))))
  have q2 : (Cond.fieldLink RX5 35 "RollupStore" "summary" "LRollupStore$Rollup;").before _ s = true := hts _ (List.mem_cons_of_mem _ (List.mem_append_left _ (List.mem_append_left _ (List.mem_append_left _ (List.mem_append_left _ (List.mem_append_left _ (List.mem_append_left _ (List.mem_append_left _ (List.mem_append_left _ (List.mem_append_left _ (List.mem_of_getElem? (i := 0) rfl)))))))))))
  have hL1 : ∀ w ∈ u_ws RX1 TX1 8, w.before _ s = true := fun w h9 => hts w (List.mem_cons_of_mem _ (List.mem_append_left _ (List.mem_append_left _ (List.mem_append_left _ (List.mem_append_left _ (List.mem_append_left _ (List.mem_append_left _ (List.mem_append_right _ (h9)))))))))
  have q4 : (Cond.fieldLink RX5 153 "RollupStore$Rollup" "sum" "J").before _ s = true := hts _ (List.mem_cons_of_mem _ (List.mem_append_left _ (List.mem_append_left _ (List.mem_append_left _ (List.mem_append_left _ (List.mem_append_left _ (List.mem_append_left _ (List.mem_append_left _ (List.mem_append_left _ (List.mem_append_left _ (List.mem_of_getElem? (i := 1) rfl)))))))))))
  refine lv_aload_n hx hb dX5_total_0 rfl (lv_at hl 0 rfl) ?_
  refine lv_iload_n hx hb dX5_total_1 rfl (lv_at hl 1 rfl) ?_
  obtain ⟨g1, h⟩ := h
  refine xt_q (vx_runV (As := [.int p1]) (rest := []) ⟨hx, hb, hml, hown, hts⟩ (mt_X5_seriesAt l hl9 G base h) (cwV 1 hts gX5_total_X5_seriesAt rfl rfl rfl (by decide +kernel) ⟨Nat.le_of_ble_eq_true rfl, Nat.le_of_ble_eq_true rfl⟩) (xp_V hbase hh hK hX hS (ci := 5) g1 (by decide) rfl) rfl rfl hl.1 rfl (lv_room (Nat.le_of_ble_eq_true rfl)) dX5_total_2 ⟨Nat.le_of_ble_eq_true rfl, Nat.le_of_ble_eq_true rfl⟩) hS (fun k9 m9 H locs q9 ce h hh hS hc9 hv9 hcl9 => xe_out hout hlocks hbase hh hK hX hS h hc9 hv9 hcl9 (Nat.le_of_ble_eq_true rfl) (Nat.le_of_ble_eq_true rfl)) (fun r2 m3 H locs h hh hS => ?_)
  obtain ⟨b4, eb4, h⟩ := h
  rw [eb4]
  refine W.eq (g2 := F0 m 5 ls [.ref b4]) rfl ?_
  refine lv_astore (lv' := [(4, .ref b4), (0, .ref a0), (1, .int p1), (2, .int p2), (3, .int p3)]) hx hb dX5_total_5 hl (by decide) rfl (fun ls hl => ?_)
  refine lv_iload_n hx hb dX5_total_7 rfl (lv_at hl 3 rfl) ?_
  refine lv_iload_n hx hb dX5_total_8 rfl (lv_at hl 4 rfl) ?_
  refine lv_bipush (v := 60) hx hb dX5_total_9 (by decide) ?_
  refine xt_v (vx_runS (As := [.int p2, .int p3, .int (60 : Int32)]) (rest := []) ⟨hx, hb, hml, hown, hts⟩ (mt_X5_needWindow l hl9 G base h) (va_cwS 3 hts gX5_total_X5_needWindow rfl rfl rfl (by decide +kernel) ⟨Nat.le_of_ble_eq_true rfl, Nat.le_of_ble_eq_true rfl⟩) (xp_S hbase hh hK hX hS) rfl rfl hl.1 rfl (lv_room (Nat.le_of_ble_eq_true rfl)) dX5_total_11 ⟨Nat.le_of_ble_eq_true rfl, Nat.le_of_ble_eq_true rfl⟩) hS (fun k9 m9 H locs q9 ce h hh hS hc9 hv9 hcl9 => xe_out hout hlocks hbase hh hK hX hS h hc9 hv9 hcl9 (Nat.le_of_ble_eq_true rfl) (Nat.le_of_ble_eq_true rfl)) (fun m6 H locs h hh hS => ?_)
  refine lv_aload_n hx hb dX5_total_14 rfl (lv_at hl 1 rfl) ?_
  refine lv_aload hx hb dX5_total_15 (lv_at hl 0 rfl) ?_
  refine lv_iload_n hx hb dX5_total_17 rfl (lv_at hl 3 rfl) ?_
  refine lv_iload_n hx hb dX5_total_18 rfl (lv_at hl 4 rfl) ?_
  obtain ⟨g7, h⟩ := h
  refine xt_v (vx_runV (As := [.ref b4, .int p2, .int p3]) (rest := []) ⟨hx, hb, hml, hown, hts⟩ (mt_X5_summarize l hl9 G base h) (cwV 3 hts gX5_total_X5_summarize rfl rfl rfl (by decide +kernel) ⟨Nat.le_of_ble_eq_true rfl, Nat.le_of_ble_eq_true rfl⟩) (xp_V hbase hh hK hX hS (ci := 5) g7 (by decide) rfl) rfl rfl hl.1 rfl (lv_room (Nat.le_of_ble_eq_true rfl)) dX5_total_19 ⟨Nat.le_of_ble_eq_true rfl, Nat.le_of_ble_eq_true rfl⟩) hS (fun k9 m9 H locs q9 ce h hh hS hc9 hv9 hcl9 => xe_out hout hlocks hbase hh hK hX hS h hc9 hv9 hcl9 (Nat.le_of_ble_eq_true rfl) (Nat.le_of_ble_eq_true rfl)) (fun m9 H locs h hh hS => ?_)
  refine lv_aload_n hx hb dX5_total_22 rfl (lv_at hl 1 rfl) ?_
  obtain ⟨g10, h⟩ := h
  obtain ⟨b11, eb11, h⟩ := h
  refine xr_getR (ci := 5) (C := RX5) (T := TX5) (N := 7) hx hb hL5 hown hK hh g10 (by decide) rfl 6 106 rfl rfl (by decide) (by decide) q2 (fun _ h9 => h9) eb11 dX5_total_23 ?_
  obtain ⟨g12, h⟩ := h
  refine xr_getJ (ci := 1) (C := RX1) (T := TX1) (N := 8) hx hb hL1 hown hK hh g12 (by decide) rfl 2 22 rfl rfl (by decide) (by decide) q4 (fun _ h9 => h9) dX5_total_26 ?_
  exact vx_ret (xe_l hx hb hr hlocks hbase hh hK hX hS h (Nat.le_of_ble_eq_true rfl) (Nat.le_of_ble_eq_true rfl) dX5_total_29)

set_option maxHeartbeats 4000000 in
set_option maxRecDepth 100000 in
theorem mtq_X5_total (l : Launch) (G : GG) (base : Nat) {a0 : Nat} {p1 : Int32} {p2 : Int32} {p3 : Int32} {m0 : MM} {Q : Int64 → MM → Prop} (h : wp_X5_total a0 p1 p2 p3 m0 Q (fun _ _ => False)) : Met l yX5_total wsX5_total ({ frames := 7, cells := 0, slots := 0, locals := 162 }) (va_Pc [.ref a0, .int p1, .int p2, .int p3] (SP G base m0)) (va_Ql Q (HB G base) (xA base)) 0 0 (xA base) := by
  refine Met.ofW (cc := cX5_total) (maxL := 5) (ret := (some .long)) (by decide) rfl ?_
  intro p e s m args below meth c s₁ B hml hv
  obtain ⟨rfl, hbase, hh, hK, hX⟩ := hv
  have C0 : BC p s m _ meth c G base RX5 cX5_total 5 (some .long) wsX5_total := ⟨B.exec, B.bytes, B.returns, hml, findClass_of_methodNamed B.named, atoms_spec (ws := wsX5_total) B.pre, B.notSynchronized, hK, hbase, hX⟩
  obtain ⟨hx, hb, hr, -, hown, hts, hlocks, -, -, -⟩ := id C0
  have hS : va_S (xA base) s.heap s.heap [] := va_S.rf
  have hl := lv_entry ([.ref a0, .int p1, .int p2, .int p3]) (n := 5) (Nat.le_of_ble_eq_true rfl)
  rw [lg_entry_eq]
  generalize (lg_sl ([.ref a0, .int p1, .int p2, .int p3]) ++ List.replicate (5 - (lg_sl ([.ref a0, .int p1, .int p2, .int p3])).length) Slot.unset).toArray = ls at hl ⊢
  have hl : lv_has ls 5 [(0, .ref a0), (1, .int p1), (2, .int p2), (3, .int p3)] := hl
  unfold wp_X5_total at h
  have hL5 : ∀ w ∈ u_ws RX5 TX5 7, w.before _ s = true := fun w h9 => hts w (List.mem_cons_of_mem _ (List.mem_append_left _ (List.mem_append_left _ (List.mem_append_left _ (List.mem_append_left _ (List.mem_append_left _ (List.mem_append_left _ (List.mem_append_left _ (List.mem_append_right _ (h9))))))))))
  have q2 : (Cond.fieldLink RX5 35 "RollupStore" "summary" "LRollupStore$Rollup;").before _ s = true := hts _ (List.mem_cons_of_mem _ (List.mem_append_left _ (List.mem_append_left _ (List.mem_append_left _ (List.mem_append_left _ (List.mem_append_left _ (List.mem_append_left _ (List.mem_append_left _ (List.mem_append_left _ (List.mem_append_left _ (List.mem_of_getElem? (i := 0) rfl)))))))))))
  have hL1 : ∀ w ∈ u_ws RX1 TX1 8, w.before _ s = true := fun w h9 => hts w (List.mem_cons_of_mem _ (List.mem_append_left _ (List.mem_append_left _ (List.mem_append_left _ (List.mem_append_left _ (List.mem_append_left _ (List.mem_append_left _ (List.mem_append_right _ (h9)))))))))
  have q4 : (Cond.fieldLink RX5 153 "RollupStore$Rollup" "sum" "J").before _ s = true := hts _ (List.mem_cons_of_mem _ (List.mem_append_left _ (List.mem_append_left _ (List.mem_append_left _ (List.mem_append_left _ (List.mem_append_left _ (List.mem_append_left _ (List.mem_append_left _ (List.mem_append_left _ (List.mem_append_left _ (List.mem_of_getElem? (i := 1) rfl)))))))))))
  refine lv_aload_n hx hb dX5_total_0 rfl (lv_at hl 0 rfl) ?_
  refine lv_iload_n hx hb dX5_total_1 rfl (lv_at hl 1 rfl) ?_
  obtain ⟨g1, h⟩ := h
  refine xc_q (va_runV (As := [.int p1]) (rest := []) ⟨hx, hb, hml, hown, hts⟩ (mtq_X5_seriesAt l G base h) (cwV 1 hts gX5_total_X5_seriesAt rfl rfl rfl (by decide +kernel) ⟨Nat.le_of_ble_eq_true rfl, Nat.le_of_ble_eq_true rfl⟩) (xp_V hbase hh hK hX hS (ci := 5) g1 (by decide) rfl) rfl rfl hl.1 rfl (lv_room (Nat.le_of_ble_eq_true rfl)) dX5_total_2 ⟨Nat.le_of_ble_eq_true rfl, Nat.le_of_ble_eq_true rfl⟩) hS (fun r2 m3 H locs h hh hS => ?_)
  obtain ⟨b4, eb4, h⟩ := h
  rw [eb4]
  refine W.eq (g2 := F0 m 5 ls [.ref b4]) rfl ?_
  refine lv_astore (lv' := [(4, .ref b4), (0, .ref a0), (1, .int p1), (2, .int p2), (3, .int p3)]) hx hb dX5_total_5 hl (by decide) rfl (fun ls hl => ?_)
  refine lv_iload_n hx hb dX5_total_7 rfl (lv_at hl 3 rfl) ?_
  refine lv_iload_n hx hb dX5_total_8 rfl (lv_at hl 4 rfl) ?_
  refine lv_bipush (v := 60) hx hb dX5_total_9 (by decide) ?_
  refine xc_v (va_runS (As := [.int p2, .int p3, .int (60 : Int32)]) (rest := []) ⟨hx, hb, hml, hown, hts⟩ (mtq_X5_needWindow l G base h) (va_cwS 3 hts gX5_total_X5_needWindow rfl rfl rfl (by decide +kernel) ⟨Nat.le_of_ble_eq_true rfl, Nat.le_of_ble_eq_true rfl⟩) (xp_S hbase hh hK hX hS) rfl rfl hl.1 rfl (lv_room (Nat.le_of_ble_eq_true rfl)) dX5_total_11 ⟨Nat.le_of_ble_eq_true rfl, Nat.le_of_ble_eq_true rfl⟩) hS (fun m6 H locs h hh hS => ?_)
  refine lv_aload_n hx hb dX5_total_14 rfl (lv_at hl 1 rfl) ?_
  refine lv_aload hx hb dX5_total_15 (lv_at hl 0 rfl) ?_
  refine lv_iload_n hx hb dX5_total_17 rfl (lv_at hl 3 rfl) ?_
  refine lv_iload_n hx hb dX5_total_18 rfl (lv_at hl 4 rfl) ?_
  obtain ⟨g7, h⟩ := h
  refine xc_v (va_runV (As := [.ref b4, .int p2, .int p3]) (rest := []) ⟨hx, hb, hml, hown, hts⟩ (mtq_X5_summarize l G base h) (cwV 3 hts gX5_total_X5_summarize rfl rfl rfl (by decide +kernel) ⟨Nat.le_of_ble_eq_true rfl, Nat.le_of_ble_eq_true rfl⟩) (xp_V hbase hh hK hX hS (ci := 5) g7 (by decide) rfl) rfl rfl hl.1 rfl (lv_room (Nat.le_of_ble_eq_true rfl)) dX5_total_19 ⟨Nat.le_of_ble_eq_true rfl, Nat.le_of_ble_eq_true rfl⟩) hS (fun m9 H locs h hh hS => ?_)
  refine lv_aload_n hx hb dX5_total_22 rfl (lv_at hl 1 rfl) ?_
  obtain ⟨g10, h⟩ := h
  obtain ⟨b11, eb11, h⟩ := h
  refine xr_getR (ci := 5) (C := RX5) (T := TX5) (N := 7) hx hb hL5 hown hK hh g10 (by decide) rfl 6 106 rfl rfl (by decide) (by decide) q2 (fun _ h9 => h9) eb11 dX5_total_23 ?_
  obtain ⟨g12, h⟩ := h
  refine xr_getJ (ci := 1) (C := RX1) (T := TX1) (N := 8) hx hb hL1 hown hK hh g12 (by decide) rfl 2 22 rfl rfl (by decide) (by decide) q4 (fun _ h9 => h9) dX5_total_26 ?_
  exact (xe_l hx hb hr hlocks hbase hh hK hX hS h (Nat.le_of_ble_eq_true rfl) (Nat.le_of_ble_eq_true rfl) dX5_total_29)

set_option maxHeartbeats 4000000 in
set_option maxRecDepth 100000 in
theorem mt_X5_totalByPoints (l : Launch) (hl9 : l.stackTraces = false) (G : GG) (base : Nat) {a0 : Nat} {p1 : Int32} {p2 : Int32} {p3 : Int32} {m0 : MM} {Q : Int64 → MM → Prop} {X : Nat → MM → Prop} (h : wp_X5_totalByPoints a0 p1 p2 p3 m0 Q X) : vx_Met l yX5_totalByPoints wsX5_totalByPoints ({ frames := 7, cells := 3, slots := 18, locals := 118 }) (va_Pc [.ref a0, .int p1, .int p2, .int p3] (SP G base m0)) (va_Ql Q (HB G base) (xA base)) (xX G base X) 3 18 (xA base) := by
  refine vx_ofW (cc := cX5_totalByPoints) (maxL := 5) (ret := (some .long)) (by decide) rfl ?_
  intro p e s m args below meth c s₁ B hml hout hv
  obtain ⟨rfl, hbase, hh, hK, hX⟩ := hv
  have C0 : BC p s m _ meth c G base RX5 cX5_totalByPoints 5 (some .long) wsX5_totalByPoints := ⟨B.exec, B.bytes, B.returns, hml, findClass_of_methodNamed B.named, atoms_spec (ws := wsX5_totalByPoints) B.pre, B.notSynchronized, hK, hbase, hX⟩
  obtain ⟨hx, hb, hr, -, hown, hts, hlocks, -, -, -⟩ := id C0
  have hS : va_S (xA base) s.heap s.heap [] := va_S.rf
  have hl := lv_entry ([.ref a0, .int p1, .int p2, .int p3]) (n := 5) (Nat.le_of_ble_eq_true rfl)
  rw [lg_entry_eq]
  generalize (lg_sl ([.ref a0, .int p1, .int p2, .int p3]) ++ List.replicate (5 - (lg_sl ([.ref a0, .int p1, .int p2, .int p3])).length) Slot.unset).toArray = ls at hl ⊢
  have hl : lv_has ls 5 [(0, .ref a0), (1, .int p1), (2, .int p2), (3, .int p3)] := hl
  unfold wp_X5_totalByPoints at h
  have hL5 : ∀ w ∈ u_ws RX5 TX5 7, w.before _ s = true := fun w h9 => hts w (List.mem_cons_of_mem _ (List.mem_append_left _ (List.mem_append_left _ (List.mem_append_left _ (List.mem_append_left _ (List.mem_append_left _ (List.mem_append_left _ (List.mem_append_right _ (h9)))))))))
  have q2 : (Cond.fieldLink RX5 22 "RollupStore" "horizon" "[I").before _ s = true := hts _ (List.mem_cons_of_mem _ (List.mem_append_left _ (List.mem_append_left _ (List.mem_append_left _ (List.mem_append_left _ (List.mem_append_left _ (List.mem_append_left _ (List.mem_append_left _ (List.mem_append_left _ (List.mem_of_getElem? (i := 2) rfl))))))))))
  have q3 : (Cond.fieldLink RX5 35 "RollupStore" "summary" "LRollupStore$Rollup;").before _ s = true := hts _ (List.mem_cons_of_mem _ (List.mem_append_left _ (List.mem_append_left _ (List.mem_append_left _ (List.mem_append_left _ (List.mem_append_left _ (List.mem_append_left _ (List.mem_append_left _ (List.mem_append_left _ (List.mem_of_getElem? (i := 3) rfl))))))))))
  have hL3 : ∀ w ∈ u_ws RX3 TX3 5, w.before _ s = true := fun w h9 => hts w (List.mem_cons_of_mem _ (List.mem_append_left _ (List.mem_append_left _ (List.mem_append_left _ (List.mem_append_left _ (List.mem_append_left _ (List.mem_append_right _ (h9))))))))
  have q5 : (Cond.fieldLink RX5 91 "RollupStore$Series" "points" "LRollupStore$Points;").before _ s = true := hts _ (List.mem_cons_of_mem _ (List.mem_append_left _ (List.mem_append_left _ (List.mem_append_left _ (List.mem_append_left _ (List.mem_append_left _ (List.mem_append_left _ (List.mem_append_left _ (List.mem_append_left _ (List.mem_of_getElem? (i := 4) rfl))))))))))
  have hL1 : ∀ w ∈ u_ws RX1 TX1 8, w.before _ s = true := fun w h9 => hts w (List.mem_cons_of_mem _ (List.mem_append_left _ (List.mem_append_left _ (List.mem_append_left _ (List.mem_append_left _ (List.mem_append_right _ (h9)))))))
  have q7 : (Cond.fieldLink RX5 153 "RollupStore$Rollup" "sum" "J").before _ s = true := hts _ (List.mem_cons_of_mem _ (List.mem_append_left _ (List.mem_append_left _ (List.mem_append_left _ (List.mem_append_left _ (List.mem_append_left _ (List.mem_append_left _ (List.mem_append_left _ (List.mem_append_left _ (List.mem_of_getElem? (i := 5) rfl))))))))))
  have hW2 : ∀ w ∈ (vx_atS RX5 51 "java/lang/IllegalStateException" ["java/lang/RuntimeException", "java/lang/Exception"]).filter goodWord, w.before _ s = true := fun w h9 => hts w (List.mem_cons_of_mem _ (List.mem_append_left _ (List.mem_append_left _ (List.mem_append_right _ (h9)))))
  have q9 : (Cond.classLink RX5 47 "java/lang/IllegalStateException").before _ s = true := hts _ (List.mem_cons_of_mem _ (List.mem_append_left _ (List.mem_append_left _ (List.mem_append_left _ (List.mem_append_left _ (List.mem_append_left _ (List.mem_append_left _ (List.mem_append_left _ (List.mem_append_left _ (List.mem_of_getElem? (i := 0) rfl))))))))))
  have q10 : (Cond.initialized "java/lang/IllegalStateException").before _ s = true := hts _ (List.mem_cons_of_mem _ (List.mem_append_left _ (List.mem_append_left _ (List.mem_append_left _ (List.mem_append_left _ (List.mem_append_left _ (List.mem_append_left _ (List.mem_append_left _ (List.mem_append_left _ (List.mem_of_getElem? (i := 1) rfl))))))))))
  refine lv_aload_n hx hb dX5_totalByPoints_0 rfl (lv_at hl 0 rfl) ?_
  refine lv_iload_n hx hb dX5_totalByPoints_1 rfl (lv_at hl 1 rfl) ?_
  obtain ⟨g1, h⟩ := h
  refine xt_q (vx_runV (As := [.int p1]) (rest := []) ⟨hx, hb, hml, hown, hts⟩ (mt_X5_seriesAt l hl9 G base h) (cwV 1 hts gX5_totalByPoints_X5_seriesAt rfl rfl rfl (by decide +kernel) ⟨Nat.le_of_ble_eq_true rfl, Nat.le_of_ble_eq_true rfl⟩) (xp_V hbase hh hK hX hS (ci := 5) g1 (by decide) rfl) rfl rfl hl.1 rfl (lv_room (Nat.le_of_ble_eq_true rfl)) dX5_totalByPoints_2 ⟨Nat.le_of_ble_eq_true rfl, Nat.le_of_ble_eq_true rfl⟩) hS (fun k9 m9 H locs q9 ce h hh hS hc9 hv9 hcl9 => xe_out hout hlocks hbase hh hK hX hS h hc9 hv9 hcl9 (Nat.le_of_ble_eq_true rfl) (Nat.le_of_ble_eq_true rfl)) (fun r2 m3 H locs h hh hS => ?_)
  obtain ⟨b4, eb4, h⟩ := h
  rw [eb4]
  refine W.eq (g2 := F0 m 5 ls [.ref b4]) rfl ?_
  refine lv_astore (lv' := [(4, .ref b4), (0, .ref a0), (1, .int p1), (2, .int p2), (3, .int p3)]) hx hb dX5_totalByPoints_5 hl (by decide) rfl (fun ls hl => ?_)
  refine lv_iload_n hx hb dX5_totalByPoints_7 rfl (lv_at hl 3 rfl) ?_
  refine lv_iload_n hx hb dX5_totalByPoints_8 rfl (lv_at hl 4 rfl) ?_
  refine lv_bipush (v := 60) hx hb dX5_totalByPoints_9 (by decide) ?_
  refine xt_v (vx_runS (As := [.int p2, .int p3, .int (60 : Int32)]) (rest := []) ⟨hx, hb, hml, hown, hts⟩ (mt_X5_needWindow l hl9 G base h) (va_cwS 3 hts gX5_totalByPoints_X5_needWindow rfl rfl rfl (by decide +kernel) ⟨Nat.le_of_ble_eq_true rfl, Nat.le_of_ble_eq_true rfl⟩) (xp_S hbase hh hK hX hS) rfl rfl hl.1 rfl (lv_room (Nat.le_of_ble_eq_true rfl)) dX5_totalByPoints_11 ⟨Nat.le_of_ble_eq_true rfl, Nat.le_of_ble_eq_true rfl⟩) hS (fun k9 m9 H locs q9 ce h hh hS hc9 hv9 hcl9 => xe_out hout hlocks hbase hh hK hX hS h hc9 hv9 hcl9 (Nat.le_of_ble_eq_true rfl) (Nat.le_of_ble_eq_true rfl)) (fun m6 H locs h hh hS => ?_)
  refine lv_iload_n hx hb dX5_totalByPoints_14 rfl (lv_at hl 3 rfl) ?_
  refine lv_aload_n hx hb dX5_totalByPoints_15 rfl (lv_at hl 1 rfl) ?_
  obtain ⟨g7, h⟩ := h
  obtain ⟨b8, eb8, h⟩ := h
  refine xr_getR (ci := 5) (C := RX5) (T := TX5) (N := 7) hx hb hL5 hown hK hh g7 (by decide) rfl 4 104 rfl rfl (by decide) (by decide) q2 (fun _ h9 => h9) eb8 dX5_totalByPoints_16 ?_
  refine lv_iconst (v := 0) hx hb dX5_totalByPoints_19 (by decide) ?_
  obtain ⟨g9, h⟩ := h
  obtain ⟨g10, h⟩ := h
  refine xr_iald hx hb hK hh g9 g10 dX5_totalByPoints_20 ?_
  refine lv_icmp_ge (tgt := 34) hx hb dX5_totalByPoints_21 (by decide) (fun c11 => ?_) (fun c11 => ?_)
  · replace h := h.1 c11
    refine lv_aload_n hx hb dX5_totalByPoints_34 rfl (lv_at hl 1 rfl) ?_
    obtain ⟨g12, h⟩ := h
    obtain ⟨b13, eb13, h⟩ := h
    refine xr_getR (ci := 5) (C := RX5) (T := TX5) (N := 7) hx hb hL5 hown hK hh g12 (by decide) rfl 6 106 rfl rfl (by decide) (by decide) q3 (fun _ h9 => h9) eb13 dX5_totalByPoints_35 ?_
    obtain ⟨g14, h⟩ := h
    refine xc_v (va_runV (As := []) (rest := []) ⟨hx, hb, hml, hown, hts⟩ (mt_X1_clear l G base h) (cwV 0 hts gX5_totalByPoints_X1_clear rfl rfl rfl (by decide +kernel) ⟨Nat.le_of_ble_eq_true rfl, Nat.le_of_ble_eq_true rfl⟩) (xp_V hbase hh hK hX hS (ci := 1) g14 (by decide) rfl) rfl rfl hl.1 rfl (lv_room (Nat.le_of_ble_eq_true rfl)) dX5_totalByPoints_38 ⟨Nat.le_of_ble_eq_true rfl, Nat.le_of_ble_eq_true rfl⟩) hS (fun m16 H locs h hh hS => ?_)
    refine lv_aload hx hb dX5_totalByPoints_41 (lv_at hl 0 rfl) ?_
    obtain ⟨g17, h⟩ := h
    obtain ⟨b18, eb18, h⟩ := h
    refine xr_getR (ci := 3) (C := RX3) (T := TX3) (N := 5) hx hb hL3 hown hK hh g17 (by decide) rfl 1 61 rfl rfl (by decide) (by decide) q5 (fun _ h9 => h9) eb18 dX5_totalByPoints_43 ?_
    refine lv_aload_n hx hb dX5_totalByPoints_46 rfl (lv_at hl 1 rfl) ?_
    obtain ⟨g19, h⟩ := h
    obtain ⟨b20, eb20, h⟩ := h
    refine xr_getR (ci := 5) (C := RX5) (T := TX5) (N := 7) hx hb hL5 hown hK hh g19 (by decide) rfl 6 106 rfl rfl (by decide) (by decide) q3 (fun _ h9 => h9) eb20 dX5_totalByPoints_47 ?_
    refine lv_iload_n hx hb dX5_totalByPoints_50 rfl (lv_at hl 3 rfl) ?_
    refine lv_iload_n hx hb dX5_totalByPoints_51 rfl (lv_at hl 4 rfl) ?_
    obtain ⟨g21, h⟩ := h
    refine xc_v (va_runV (As := [.ref b20, .int p2, .int p3]) (rest := []) ⟨hx, hb, hml, hown, hts⟩ (mt_X0_addTo l G base h) (cwV 3 hts gX5_totalByPoints_X0_addTo rfl rfl rfl (by decide +kernel) ⟨Nat.le_of_ble_eq_true rfl, Nat.le_of_ble_eq_true rfl⟩) (xp_V hbase hh hK hX hS (ci := 0) g21 (by decide) rfl) rfl rfl hl.1 rfl (lv_room (Nat.le_of_ble_eq_true rfl)) dX5_totalByPoints_52 ⟨Nat.le_of_ble_eq_true rfl, Nat.le_of_ble_eq_true rfl⟩) hS (fun m23 H locs h hh hS => ?_)
    refine lv_aload_n hx hb dX5_totalByPoints_55 rfl (lv_at hl 1 rfl) ?_
    obtain ⟨g24, h⟩ := h
    obtain ⟨b25, eb25, h⟩ := h
    refine xr_getR (ci := 5) (C := RX5) (T := TX5) (N := 7) hx hb hL5 hown hK hh g24 (by decide) rfl 6 106 rfl rfl (by decide) (by decide) q3 (fun _ h9 => h9) eb25 dX5_totalByPoints_56 ?_
    obtain ⟨g26, h⟩ := h
    refine xr_getJ (ci := 1) (C := RX1) (T := TX1) (N := 8) hx hb hL1 hown hK hh g26 (by decide) rfl 2 22 rfl rfl (by decide) (by decide) q7 (fun _ h9 => h9) dX5_totalByPoints_59 ?_
    exact vx_ret (xe_l hx hb hr hlocks hbase hh hK hX hS h (Nat.le_of_ble_eq_true rfl) (Nat.le_of_ble_eq_true rfl) dX5_totalByPoints_62)
  · replace h := h.2 c11
    exact xe_throw2 (text := "points of the window may have expired") (is := 205) hx hb hl9 hout hlocks hbase hh hX hS hown q9 q10 hW2 (List.mem_of_getElem? (i := 4) rfl) (hl.1.trans hml.symm) dX5_totalByPoints_24 dX5_totalByPoints_27 dX5_totalByPoints_28 dX5_totalByPoints_30 dX5_totalByPoints_33 (Nat.le_of_ble_eq_true rfl) (Nat.le_of_ble_eq_true rfl) (Nat.le_of_ble_eq_true rfl) (Nat.le_of_ble_eq_true rfl) h (Nat.le_of_ble_eq_true rfl) (Nat.le_of_ble_eq_true rfl)

set_option maxHeartbeats 4000000 in
set_option maxRecDepth 100000 in
theorem mtq_X5_totalByPoints (l : Launch) (G : GG) (base : Nat) {a0 : Nat} {p1 : Int32} {p2 : Int32} {p3 : Int32} {m0 : MM} {Q : Int64 → MM → Prop} (h : wp_X5_totalByPoints a0 p1 p2 p3 m0 Q (fun _ _ => False)) : Met l yX5_totalByPoints wsX5_totalByPoints ({ frames := 7, cells := 0, slots := 0, locals := 118 }) (va_Pc [.ref a0, .int p1, .int p2, .int p3] (SP G base m0)) (va_Ql Q (HB G base) (xA base)) 0 0 (xA base) := by
  refine Met.ofW (cc := cX5_totalByPoints) (maxL := 5) (ret := (some .long)) (by decide) rfl ?_
  intro p e s m args below meth c s₁ B hml hv
  obtain ⟨rfl, hbase, hh, hK, hX⟩ := hv
  have C0 : BC p s m _ meth c G base RX5 cX5_totalByPoints 5 (some .long) wsX5_totalByPoints := ⟨B.exec, B.bytes, B.returns, hml, findClass_of_methodNamed B.named, atoms_spec (ws := wsX5_totalByPoints) B.pre, B.notSynchronized, hK, hbase, hX⟩
  obtain ⟨hx, hb, hr, -, hown, hts, hlocks, -, -, -⟩ := id C0
  have hS : va_S (xA base) s.heap s.heap [] := va_S.rf
  have hl := lv_entry ([.ref a0, .int p1, .int p2, .int p3]) (n := 5) (Nat.le_of_ble_eq_true rfl)
  rw [lg_entry_eq]
  generalize (lg_sl ([.ref a0, .int p1, .int p2, .int p3]) ++ List.replicate (5 - (lg_sl ([.ref a0, .int p1, .int p2, .int p3])).length) Slot.unset).toArray = ls at hl ⊢
  have hl : lv_has ls 5 [(0, .ref a0), (1, .int p1), (2, .int p2), (3, .int p3)] := hl
  unfold wp_X5_totalByPoints at h
  have hL5 : ∀ w ∈ u_ws RX5 TX5 7, w.before _ s = true := fun w h9 => hts w (List.mem_cons_of_mem _ (List.mem_append_left _ (List.mem_append_left _ (List.mem_append_left _ (List.mem_append_left _ (List.mem_append_left _ (List.mem_append_left _ (List.mem_append_right _ (h9)))))))))
  have q2 : (Cond.fieldLink RX5 22 "RollupStore" "horizon" "[I").before _ s = true := hts _ (List.mem_cons_of_mem _ (List.mem_append_left _ (List.mem_append_left _ (List.mem_append_left _ (List.mem_append_left _ (List.mem_append_left _ (List.mem_append_left _ (List.mem_append_left _ (List.mem_append_left _ (List.mem_of_getElem? (i := 2) rfl))))))))))
  have q3 : (Cond.fieldLink RX5 35 "RollupStore" "summary" "LRollupStore$Rollup;").before _ s = true := hts _ (List.mem_cons_of_mem _ (List.mem_append_left _ (List.mem_append_left _ (List.mem_append_left _ (List.mem_append_left _ (List.mem_append_left _ (List.mem_append_left _ (List.mem_append_left _ (List.mem_append_left _ (List.mem_of_getElem? (i := 3) rfl))))))))))
  have hL3 : ∀ w ∈ u_ws RX3 TX3 5, w.before _ s = true := fun w h9 => hts w (List.mem_cons_of_mem _ (List.mem_append_left _ (List.mem_append_left _ (List.mem_append_left _ (List.mem_append_left _ (List.mem_append_left _ (List.mem_append_right _ (h9))))))))
  have q5 : (Cond.fieldLink RX5 91 "RollupStore$Series" "points" "LRollupStore$Points;").before _ s = true := hts _ (List.mem_cons_of_mem _ (List.mem_append_left _ (List.mem_append_left _ (List.mem_append_left _ (List.mem_append_left _ (List.mem_append_left _ (List.mem_append_left _ (List.mem_append_left _ (List.mem_append_left _ (List.mem_of_getElem? (i := 4) rfl))))))))))
  have hL1 : ∀ w ∈ u_ws RX1 TX1 8, w.before _ s = true := fun w h9 => hts w (List.mem_cons_of_mem _ (List.mem_append_left _ (List.mem_append_left _ (List.mem_append_left _ (List.mem_append_left _ (List.mem_append_right _ (h9)))))))
  have q7 : (Cond.fieldLink RX5 153 "RollupStore$Rollup" "sum" "J").before _ s = true := hts _ (List.mem_cons_of_mem _ (List.mem_append_left _ (List.mem_append_left _ (List.mem_append_left _ (List.mem_append_left _ (List.mem_append_left _ (List.mem_append_left _ (List.mem_append_left _ (List.mem_append_left _ (List.mem_of_getElem? (i := 5) rfl))))))))))
  refine lv_aload_n hx hb dX5_totalByPoints_0 rfl (lv_at hl 0 rfl) ?_
  refine lv_iload_n hx hb dX5_totalByPoints_1 rfl (lv_at hl 1 rfl) ?_
  obtain ⟨g1, h⟩ := h
  refine xc_q (va_runV (As := [.int p1]) (rest := []) ⟨hx, hb, hml, hown, hts⟩ (mtq_X5_seriesAt l G base h) (cwV 1 hts gX5_totalByPoints_X5_seriesAt rfl rfl rfl (by decide +kernel) ⟨Nat.le_of_ble_eq_true rfl, Nat.le_of_ble_eq_true rfl⟩) (xp_V hbase hh hK hX hS (ci := 5) g1 (by decide) rfl) rfl rfl hl.1 rfl (lv_room (Nat.le_of_ble_eq_true rfl)) dX5_totalByPoints_2 ⟨Nat.le_of_ble_eq_true rfl, Nat.le_of_ble_eq_true rfl⟩) hS (fun r2 m3 H locs h hh hS => ?_)
  obtain ⟨b4, eb4, h⟩ := h
  rw [eb4]
  refine W.eq (g2 := F0 m 5 ls [.ref b4]) rfl ?_
  refine lv_astore (lv' := [(4, .ref b4), (0, .ref a0), (1, .int p1), (2, .int p2), (3, .int p3)]) hx hb dX5_totalByPoints_5 hl (by decide) rfl (fun ls hl => ?_)
  refine lv_iload_n hx hb dX5_totalByPoints_7 rfl (lv_at hl 3 rfl) ?_
  refine lv_iload_n hx hb dX5_totalByPoints_8 rfl (lv_at hl 4 rfl) ?_
  refine lv_bipush (v := 60) hx hb dX5_totalByPoints_9 (by decide) ?_
  refine xc_v (va_runS (As := [.int p2, .int p3, .int (60 : Int32)]) (rest := []) ⟨hx, hb, hml, hown, hts⟩ (mtq_X5_needWindow l G base h) (va_cwS 3 hts gX5_totalByPoints_X5_needWindow rfl rfl rfl (by decide +kernel) ⟨Nat.le_of_ble_eq_true rfl, Nat.le_of_ble_eq_true rfl⟩) (xp_S hbase hh hK hX hS) rfl rfl hl.1 rfl (lv_room (Nat.le_of_ble_eq_true rfl)) dX5_totalByPoints_11 ⟨Nat.le_of_ble_eq_true rfl, Nat.le_of_ble_eq_true rfl⟩) hS (fun m6 H locs h hh hS => ?_)
  refine lv_iload_n hx hb dX5_totalByPoints_14 rfl (lv_at hl 3 rfl) ?_
  refine lv_aload_n hx hb dX5_totalByPoints_15 rfl (lv_at hl 1 rfl) ?_
  obtain ⟨g7, h⟩ := h
  obtain ⟨b8, eb8, h⟩ := h
  refine xr_getR (ci := 5) (C := RX5) (T := TX5) (N := 7) hx hb hL5 hown hK hh g7 (by decide) rfl 4 104 rfl rfl (by decide) (by decide) q2 (fun _ h9 => h9) eb8 dX5_totalByPoints_16 ?_
  refine lv_iconst (v := 0) hx hb dX5_totalByPoints_19 (by decide) ?_
  obtain ⟨g9, h⟩ := h
  obtain ⟨g10, h⟩ := h
  refine xr_iald hx hb hK hh g9 g10 dX5_totalByPoints_20 ?_
  refine lv_icmp_ge (tgt := 34) hx hb dX5_totalByPoints_21 (by decide) (fun c11 => ?_) (fun c11 => ?_)
  · replace h := h.1 c11
    refine lv_aload_n hx hb dX5_totalByPoints_34 rfl (lv_at hl 1 rfl) ?_
    obtain ⟨g12, h⟩ := h
    obtain ⟨b13, eb13, h⟩ := h
    refine xr_getR (ci := 5) (C := RX5) (T := TX5) (N := 7) hx hb hL5 hown hK hh g12 (by decide) rfl 6 106 rfl rfl (by decide) (by decide) q3 (fun _ h9 => h9) eb13 dX5_totalByPoints_35 ?_
    obtain ⟨g14, h⟩ := h
    refine xc_v (va_runV (As := []) (rest := []) ⟨hx, hb, hml, hown, hts⟩ (mt_X1_clear l G base h) (cwV 0 hts gX5_totalByPoints_X1_clear rfl rfl rfl (by decide +kernel) ⟨Nat.le_of_ble_eq_true rfl, Nat.le_of_ble_eq_true rfl⟩) (xp_V hbase hh hK hX hS (ci := 1) g14 (by decide) rfl) rfl rfl hl.1 rfl (lv_room (Nat.le_of_ble_eq_true rfl)) dX5_totalByPoints_38 ⟨Nat.le_of_ble_eq_true rfl, Nat.le_of_ble_eq_true rfl⟩) hS (fun m16 H locs h hh hS => ?_)
    refine lv_aload hx hb dX5_totalByPoints_41 (lv_at hl 0 rfl) ?_
    obtain ⟨g17, h⟩ := h
    obtain ⟨b18, eb18, h⟩ := h
    refine xr_getR (ci := 3) (C := RX3) (T := TX3) (N := 5) hx hb hL3 hown hK hh g17 (by decide) rfl 1 61 rfl rfl (by decide) (by decide) q5 (fun _ h9 => h9) eb18 dX5_totalByPoints_43 ?_
    refine lv_aload_n hx hb dX5_totalByPoints_46 rfl (lv_at hl 1 rfl) ?_
    obtain ⟨g19, h⟩ := h
    obtain ⟨b20, eb20, h⟩ := h
    refine xr_getR (ci := 5) (C := RX5) (T := TX5) (N := 7) hx hb hL5 hown hK hh g19 (by decide) rfl 6 106 rfl rfl (by decide) (by decide) q3 (fun _ h9 => h9) eb20 dX5_totalByPoints_47 ?_
    refine lv_iload_n hx hb dX5_totalByPoints_50 rfl (lv_at hl 3 rfl) ?_
    refine lv_iload_n hx hb dX5_totalByPoints_51 rfl (lv_at hl 4 rfl) ?_
    obtain ⟨g21, h⟩ := h
    refine xc_v (va_runV (As := [.ref b20, .int p2, .int p3]) (rest := []) ⟨hx, hb, hml, hown, hts⟩ (mt_X0_addTo l G base h) (cwV 3 hts gX5_totalByPoints_X0_addTo rfl rfl rfl (by decide +kernel) ⟨Nat.le_of_ble_eq_true rfl, Nat.le_of_ble_eq_true rfl⟩) (xp_V hbase hh hK hX hS (ci := 0) g21 (by decide) rfl) rfl rfl hl.1 rfl (lv_room (Nat.le_of_ble_eq_true rfl)) dX5_totalByPoints_52 ⟨Nat.le_of_ble_eq_true rfl, Nat.le_of_ble_eq_true rfl⟩) hS (fun m23 H locs h hh hS => ?_)
    refine lv_aload_n hx hb dX5_totalByPoints_55 rfl (lv_at hl 1 rfl) ?_
    obtain ⟨g24, h⟩ := h
    obtain ⟨b25, eb25, h⟩ := h
    refine xr_getR (ci := 5) (C := RX5) (T := TX5) (N := 7) hx hb hL5 hown hK hh g24 (by decide) rfl 6 106 rfl rfl (by decide) (by decide) q3 (fun _ h9 => h9) eb25 dX5_totalByPoints_56 ?_
    obtain ⟨g26, h⟩ := h
    refine xr_getJ (ci := 1) (C := RX1) (T := TX1) (N := 8) hx hb hL1 hown hK hh g26 (by decide) rfl 2 22 rfl rfl (by decide) (by decide) q7 (fun _ h9 => h9) dX5_totalByPoints_59 ?_
    exact (xe_l hx hb hr hlocks hbase hh hK hX hS h (Nat.le_of_ble_eq_true rfl) (Nat.le_of_ble_eq_true rfl) dX5_totalByPoints_62)
  · replace h := h.2 c11
    exact h.elim

set_option maxHeartbeats 4000000 in
set_option maxRecDepth 100000 in
theorem mt_X5_increaseIn (l : Launch) (hl9 : l.stackTraces = false) (G : GG) (base : Nat) {a0 : Nat} {p1 : Nat} {p2 : Int32} {p3 : Int32} {m0 : MM} {Q : Int64 → MM → Prop} {X : Nat → MM → Prop} (h : wp_X5_increaseIn a0 p1 p2 p3 m0 Q X) : vx_Met l yX5_increaseIn wsX5_increaseIn ({ frames := 7, cells := 1, slots := 6, locals := 162 }) (va_Pc [.ref a0, .ref p1, .int p2, .int p3] (SP G base m0)) (va_Ql Q (HB G base) (xA base)) (xX G base X) 1 6 (xA base) := by
  refine vx_ofW (cc := cX5_increaseIn) (maxL := 4) (ret := (some .long)) (by decide) rfl ?_
  intro p e s m args below meth c s₁ B hml hout hv
  obtain ⟨rfl, hbase, hh, hK, hX⟩ := hv
  have C0 : BC p s m _ meth c G base RX5 cX5_increaseIn 4 (some .long) wsX5_increaseIn := ⟨B.exec, B.bytes, B.returns, hml, findClass_of_methodNamed B.named, atoms_spec (ws := wsX5_increaseIn) B.pre, B.notSynchronized, hK, hbase, hX⟩
  obtain ⟨hx, hb, hr, -, hown, hts, hlocks, -, -, -⟩ := id C0
  have hS : va_S (xA base) s.heap s.heap [] := va_S.rf
  have hl := lv_entry ([.ref a0, .ref p1, .int p2, .int p3]) (n := 4) (Nat.le_of_ble_eq_true rfl)
  rw [lg_entry_eq]
  generalize (lg_sl ([.ref a0, .ref p1, .int p2, .int p3]) ++ List.replicate (4 - (lg_sl ([.ref a0, .ref p1, .int p2, .int p3])).length) Slot.unset).toArray = ls at hl ⊢
  have hl : lv_has ls 4 [(0, .ref a0), (1, .ref p1), (2, .int p2), (3, .int p3)] := hl
  unfold wp_X5_increaseIn at h
  have hL3 : ∀ w ∈ u_ws RX3 TX3 5, w.before _ s = true := fun w h9 => hts w (List.mem_cons_of_mem _ (List.mem_append_left _ (List.mem_append_left _ (List.mem_append_left _ (List.mem_append_left _ (List.mem_append_left _ (List.mem_append_right _ (h9))))))))
  have q2 : (Cond.fieldLink RX5 237 "RollupStore$Series" "kind" "I").before _ s = true := hts _ (List.mem_cons_of_mem _ (List.mem_append_left _ (List.mem_append_left _ (List.mem_append_left _ (List.mem_append_left _ (List.mem_append_left _ (List.mem_append_left _ (List.mem_append_left _ (List.mem_of_getElem? (i := 2) rfl)))))))))
  have hL5 : ∀ w ∈ u_ws RX5 TX5 7, w.before _ s = true := fun w h9 => hts w (List.mem_cons_of_mem _ (List.mem_append_left _ (List.mem_append_left _ (List.mem_append_left _ (List.mem_append_left _ (List.mem_append_right _ (h9)))))))
  have q4 : (Cond.fieldLink RX5 35 "RollupStore" "summary" "LRollupStore$Rollup;").before _ s = true := hts _ (List.mem_cons_of_mem _ (List.mem_append_left _ (List.mem_append_left _ (List.mem_append_left _ (List.mem_append_left _ (List.mem_append_left _ (List.mem_append_left _ (List.mem_append_left _ (List.mem_of_getElem? (i := 3) rfl)))))))))
  have hL1 : ∀ w ∈ u_ws RX1 TX1 8, w.before _ s = true := fun w h9 => hts w (List.mem_cons_of_mem _ (List.mem_append_left _ (List.mem_append_left _ (List.mem_append_left _ (List.mem_append_right _ (h9))))))
  have q6 : (Cond.fieldLink RX5 273 "RollupStore$Rollup" "increase" "J").before _ s = true := hts _ (List.mem_cons_of_mem _ (List.mem_append_left _ (List.mem_append_left _ (List.mem_append_left _ (List.mem_append_left _ (List.mem_append_left _ (List.mem_append_left _ (List.mem_append_left _ (List.mem_of_getElem? (i := 4) rfl)))))))))
  have hW2 : ∀ w ∈ (vx_atS RX5 51 "java/lang/IllegalStateException" ["java/lang/RuntimeException", "java/lang/Exception"]).filter goodWord, w.before _ s = true := fun w h9 => hts w (List.mem_cons_of_mem _ (List.mem_append_right _ (h9)))
  have q8 : (Cond.classLink RX5 47 "java/lang/IllegalStateException").before _ s = true := hts _ (List.mem_cons_of_mem _ (List.mem_append_left _ (List.mem_append_left _ (List.mem_append_left _ (List.mem_append_left _ (List.mem_append_left _ (List.mem_append_left _ (List.mem_append_left _ (List.mem_of_getElem? (i := 0) rfl)))))))))
  have q9 : (Cond.initialized "java/lang/IllegalStateException").before _ s = true := hts _ (List.mem_cons_of_mem _ (List.mem_append_left _ (List.mem_append_left _ (List.mem_append_left _ (List.mem_append_left _ (List.mem_append_left _ (List.mem_append_left _ (List.mem_append_left _ (List.mem_of_getElem? (i := 1) rfl)))))))))
  refine lv_aload_n hx hb dX5_increaseIn_0 rfl (lv_at hl 1 rfl) ?_
  obtain ⟨g1, h⟩ := h
  refine xr_getI (ci := 3) (C := RX3) (T := TX3) (N := 5) hx hb hL3 hown hK hh g1 (by decide) rfl 0 60 rfl rfl (by decide) (by decide) q2 (fun _ h9 => h9) dX5_increaseIn_1 ?_
  refine lv_iconst (v := 1) hx hb dX5_increaseIn_4 (by decide) ?_
  refine lv_icmp_eq (tgt := 19) hx hb dX5_increaseIn_5 (by decide) (fun c2 => ?_) (fun c2 => ?_)
  · replace h := h.1 c2
    refine lv_aload_n hx hb dX5_increaseIn_19 rfl (lv_at hl 0 rfl) ?_
    refine lv_aload_n hx hb dX5_increaseIn_20 rfl (lv_at hl 1 rfl) ?_
    refine lv_iload_n hx hb dX5_increaseIn_21 rfl (lv_at hl 2 rfl) ?_
    refine lv_iload_n hx hb dX5_increaseIn_22 rfl (lv_at hl 3 rfl) ?_
    obtain ⟨g3, h⟩ := h
    refine xt_v (vx_runV (As := [.ref p1, .int p2, .int p3]) (rest := []) ⟨hx, hb, hml, hown, hts⟩ (mt_X5_summarize l hl9 G base h) (cwV 3 hts gX5_increaseIn_X5_summarize rfl rfl rfl (by decide +kernel) ⟨Nat.le_of_ble_eq_true rfl, Nat.le_of_ble_eq_true rfl⟩) (xp_V hbase hh hK hX hS (ci := 5) g3 (by decide) rfl) rfl rfl hl.1 rfl (lv_room (Nat.le_of_ble_eq_true rfl)) dX5_increaseIn_23 ⟨Nat.le_of_ble_eq_true rfl, Nat.le_of_ble_eq_true rfl⟩) hS (fun k9 m9 H locs q9 ce h hh hS hc9 hv9 hcl9 => xe_out hout hlocks hbase hh hK hX hS h hc9 hv9 hcl9 (Nat.le_of_ble_eq_true rfl) (Nat.le_of_ble_eq_true rfl)) (fun m5 H locs h hh hS => ?_)
    refine lv_aload_n hx hb dX5_increaseIn_26 rfl (lv_at hl 0 rfl) ?_
    obtain ⟨g6, h⟩ := h
    obtain ⟨b7, eb7, h⟩ := h
    refine xr_getR (ci := 5) (C := RX5) (T := TX5) (N := 7) hx hb hL5 hown hK hh g6 (by decide) rfl 6 106 rfl rfl (by decide) (by decide) q4 (fun _ h9 => h9) eb7 dX5_increaseIn_27 ?_
    obtain ⟨g8, h⟩ := h
    refine xr_getJ (ci := 1) (C := RX1) (T := TX1) (N := 8) hx hb hL1 hown hK hh g8 (by decide) rfl 7 27 rfl rfl (by decide) (by decide) q6 (fun _ h9 => h9) dX5_increaseIn_30 ?_
    exact vx_ret (xe_l hx hb hr hlocks hbase hh hK hX hS h (Nat.le_of_ble_eq_true rfl) (Nat.le_of_ble_eq_true rfl) dX5_increaseIn_33)
  · replace h := h.2 c2
    exact xe_throw2W (text := "the series is a gauge") (is := 271) hx hb hl9 hout hlocks hbase hh hX hS hown q8 q9 hW2 (List.mem_of_getElem? (i := 15) rfl) (hl.1.trans hml.symm) dX5_increaseIn_8 dX5_increaseIn_11 dX5_increaseIn_12 dX5_increaseIn_15 dX5_increaseIn_18 (Nat.le_of_ble_eq_true rfl) (Nat.le_of_ble_eq_true rfl) (Nat.le_of_ble_eq_true rfl) (Nat.le_of_ble_eq_true rfl) h (Nat.le_of_ble_eq_true rfl) (Nat.le_of_ble_eq_true rfl)

set_option maxHeartbeats 4000000 in
set_option maxRecDepth 100000 in
theorem mtq_X5_increaseIn (l : Launch) (G : GG) (base : Nat) {a0 : Nat} {p1 : Nat} {p2 : Int32} {p3 : Int32} {m0 : MM} {Q : Int64 → MM → Prop} (h : wp_X5_increaseIn a0 p1 p2 p3 m0 Q (fun _ _ => False)) : Met l yX5_increaseIn wsX5_increaseIn ({ frames := 7, cells := 0, slots := 0, locals := 162 }) (va_Pc [.ref a0, .ref p1, .int p2, .int p3] (SP G base m0)) (va_Ql Q (HB G base) (xA base)) 0 0 (xA base) := by
  refine Met.ofW (cc := cX5_increaseIn) (maxL := 4) (ret := (some .long)) (by decide) rfl ?_
  intro p e s m args below meth c s₁ B hml hv
  obtain ⟨rfl, hbase, hh, hK, hX⟩ := hv
  have C0 : BC p s m _ meth c G base RX5 cX5_increaseIn 4 (some .long) wsX5_increaseIn := ⟨B.exec, B.bytes, B.returns, hml, findClass_of_methodNamed B.named, atoms_spec (ws := wsX5_increaseIn) B.pre, B.notSynchronized, hK, hbase, hX⟩
  obtain ⟨hx, hb, hr, -, hown, hts, hlocks, -, -, -⟩ := id C0
  have hS : va_S (xA base) s.heap s.heap [] := va_S.rf
  have hl := lv_entry ([.ref a0, .ref p1, .int p2, .int p3]) (n := 4) (Nat.le_of_ble_eq_true rfl)
  rw [lg_entry_eq]
  generalize (lg_sl ([.ref a0, .ref p1, .int p2, .int p3]) ++ List.replicate (4 - (lg_sl ([.ref a0, .ref p1, .int p2, .int p3])).length) Slot.unset).toArray = ls at hl ⊢
  have hl : lv_has ls 4 [(0, .ref a0), (1, .ref p1), (2, .int p2), (3, .int p3)] := hl
  unfold wp_X5_increaseIn at h
  have hL3 : ∀ w ∈ u_ws RX3 TX3 5, w.before _ s = true := fun w h9 => hts w (List.mem_cons_of_mem _ (List.mem_append_left _ (List.mem_append_left _ (List.mem_append_left _ (List.mem_append_left _ (List.mem_append_left _ (List.mem_append_right _ (h9))))))))
  have q2 : (Cond.fieldLink RX5 237 "RollupStore$Series" "kind" "I").before _ s = true := hts _ (List.mem_cons_of_mem _ (List.mem_append_left _ (List.mem_append_left _ (List.mem_append_left _ (List.mem_append_left _ (List.mem_append_left _ (List.mem_append_left _ (List.mem_append_left _ (List.mem_of_getElem? (i := 2) rfl)))))))))
  have hL5 : ∀ w ∈ u_ws RX5 TX5 7, w.before _ s = true := fun w h9 => hts w (List.mem_cons_of_mem _ (List.mem_append_left _ (List.mem_append_left _ (List.mem_append_left _ (List.mem_append_left _ (List.mem_append_right _ (h9)))))))
  have q4 : (Cond.fieldLink RX5 35 "RollupStore" "summary" "LRollupStore$Rollup;").before _ s = true := hts _ (List.mem_cons_of_mem _ (List.mem_append_left _ (List.mem_append_left _ (List.mem_append_left _ (List.mem_append_left _ (List.mem_append_left _ (List.mem_append_left _ (List.mem_append_left _ (List.mem_of_getElem? (i := 3) rfl)))))))))
  have hL1 : ∀ w ∈ u_ws RX1 TX1 8, w.before _ s = true := fun w h9 => hts w (List.mem_cons_of_mem _ (List.mem_append_left _ (List.mem_append_left _ (List.mem_append_left _ (List.mem_append_right _ (h9))))))
  have q6 : (Cond.fieldLink RX5 273 "RollupStore$Rollup" "increase" "J").before _ s = true := hts _ (List.mem_cons_of_mem _ (List.mem_append_left _ (List.mem_append_left _ (List.mem_append_left _ (List.mem_append_left _ (List.mem_append_left _ (List.mem_append_left _ (List.mem_append_left _ (List.mem_of_getElem? (i := 4) rfl)))))))))
  refine lv_aload_n hx hb dX5_increaseIn_0 rfl (lv_at hl 1 rfl) ?_
  obtain ⟨g1, h⟩ := h
  refine xr_getI (ci := 3) (C := RX3) (T := TX3) (N := 5) hx hb hL3 hown hK hh g1 (by decide) rfl 0 60 rfl rfl (by decide) (by decide) q2 (fun _ h9 => h9) dX5_increaseIn_1 ?_
  refine lv_iconst (v := 1) hx hb dX5_increaseIn_4 (by decide) ?_
  refine lv_icmp_eq (tgt := 19) hx hb dX5_increaseIn_5 (by decide) (fun c2 => ?_) (fun c2 => ?_)
  · replace h := h.1 c2
    refine lv_aload_n hx hb dX5_increaseIn_19 rfl (lv_at hl 0 rfl) ?_
    refine lv_aload_n hx hb dX5_increaseIn_20 rfl (lv_at hl 1 rfl) ?_
    refine lv_iload_n hx hb dX5_increaseIn_21 rfl (lv_at hl 2 rfl) ?_
    refine lv_iload_n hx hb dX5_increaseIn_22 rfl (lv_at hl 3 rfl) ?_
    obtain ⟨g3, h⟩ := h
    refine xc_v (va_runV (As := [.ref p1, .int p2, .int p3]) (rest := []) ⟨hx, hb, hml, hown, hts⟩ (mtq_X5_summarize l G base h) (cwV 3 hts gX5_increaseIn_X5_summarize rfl rfl rfl (by decide +kernel) ⟨Nat.le_of_ble_eq_true rfl, Nat.le_of_ble_eq_true rfl⟩) (xp_V hbase hh hK hX hS (ci := 5) g3 (by decide) rfl) rfl rfl hl.1 rfl (lv_room (Nat.le_of_ble_eq_true rfl)) dX5_increaseIn_23 ⟨Nat.le_of_ble_eq_true rfl, Nat.le_of_ble_eq_true rfl⟩) hS (fun m5 H locs h hh hS => ?_)
    refine lv_aload_n hx hb dX5_increaseIn_26 rfl (lv_at hl 0 rfl) ?_
    obtain ⟨g6, h⟩ := h
    obtain ⟨b7, eb7, h⟩ := h
    refine xr_getR (ci := 5) (C := RX5) (T := TX5) (N := 7) hx hb hL5 hown hK hh g6 (by decide) rfl 6 106 rfl rfl (by decide) (by decide) q4 (fun _ h9 => h9) eb7 dX5_increaseIn_27 ?_
    obtain ⟨g8, h⟩ := h
    refine xr_getJ (ci := 1) (C := RX1) (T := TX1) (N := 8) hx hb hL1 hown hK hh g8 (by decide) rfl 7 27 rfl rfl (by decide) (by decide) q6 (fun _ h9 => h9) dX5_increaseIn_30 ?_
    exact (xe_l hx hb hr hlocks hbase hh hK hX hS h (Nat.le_of_ble_eq_true rfl) (Nat.le_of_ble_eq_true rfl) dX5_increaseIn_33)
  · replace h := h.2 c2
    exact h.elim

set_option maxHeartbeats 4000000 in
set_option maxRecDepth 100000 in
theorem mt_X5_increase (l : Launch) (hl9 : l.stackTraces = false) (G : GG) (base : Nat) {a0 : Nat} {p1 : Int32} {p2 : Int32} {p3 : Int32} {m0 : MM} {Q : Int64 → MM → Prop} {X : Nat → MM → Prop} (h : wp_X5_increase a0 p1 p2 p3 m0 Q X) : vx_Met l yX5_increase wsX5_increase ({ frames := 8, cells := 3, slots := 18, locals := 185 }) (va_Pc [.ref a0, .int p1, .int p2, .int p3] (SP G base m0)) (va_Ql Q (HB G base) (xA base)) (xX G base X) 3 18 (xA base) := by
  refine vx_ofW (cc := cX5_increase) (maxL := 5) (ret := (some .long)) (by decide) rfl ?_
  intro p e s m args below meth c s₁ B hml hout hv
  obtain ⟨rfl, hbase, hh, hK, hX⟩ := hv
  have C0 : BC p s m _ meth c G base RX5 cX5_increase 5 (some .long) wsX5_increase := ⟨B.exec, B.bytes, B.returns, hml, findClass_of_methodNamed B.named, atoms_spec (ws := wsX5_increase) B.pre, B.notSynchronized, hK, hbase, hX⟩
  obtain ⟨hx, hb, hr, -, hown, hts, hlocks, -, -, -⟩ := id C0
  have hS : va_S (xA base) s.heap s.heap [] := va_S.rf
  have hl := lv_entry ([.ref a0, .int p1, .int p2, .int p3]) (n := 5) (Nat.le_of_ble_eq_true rfl)
  rw [lg_entry_eq]
  generalize (lg_sl ([.ref a0, .int p1, .int p2, .int p3]) ++ List.replicate (5 - (lg_sl ([.ref a0, .int p1, .int p2, .int p3])).length) Slot.unset).toArray = ls at hl ⊢
  have hl : lv_has ls 5 [(0, .ref a0), (1, .int p1), (2, .int p2), (3, .int p3)] := hl
  unfold wp_X5_increase at h
  refine lv_aload_n hx hb dX5_increase_0 rfl (lv_at hl 0 rfl) ?_
  refine lv_iload_n hx hb dX5_increase_1 rfl (lv_at hl 1 rfl) ?_
  obtain ⟨g1, h⟩ := h
  refine xt_q (vx_runV (As := [.int p1]) (rest := []) ⟨hx, hb, hml, hown, hts⟩ (mt_X5_seriesAt l hl9 G base h) (cwV 1 hts gX5_increase_X5_seriesAt rfl rfl rfl (by decide +kernel) ⟨Nat.le_of_ble_eq_true rfl, Nat.le_of_ble_eq_true rfl⟩) (xp_V hbase hh hK hX hS (ci := 5) g1 (by decide) rfl) rfl rfl hl.1 rfl (lv_room (Nat.le_of_ble_eq_true rfl)) dX5_increase_2 ⟨Nat.le_of_ble_eq_true rfl, Nat.le_of_ble_eq_true rfl⟩) hS (fun k9 m9 H locs q9 ce h hh hS hc9 hv9 hcl9 => xe_out hout hlocks hbase hh hK hX hS h hc9 hv9 hcl9 (Nat.le_of_ble_eq_true rfl) (Nat.le_of_ble_eq_true rfl)) (fun r2 m3 H locs h hh hS => ?_)
  obtain ⟨b4, eb4, h⟩ := h
  rw [eb4]
  refine W.eq (g2 := F0 m 5 ls [.ref b4]) rfl ?_
  refine lv_astore (lv' := [(4, .ref b4), (0, .ref a0), (1, .int p1), (2, .int p2), (3, .int p3)]) hx hb dX5_increase_5 hl (by decide) rfl (fun ls hl => ?_)
  refine lv_iload_n hx hb dX5_increase_7 rfl (lv_at hl 3 rfl) ?_
  refine lv_iload_n hx hb dX5_increase_8 rfl (lv_at hl 4 rfl) ?_
  refine lv_bipush (v := 60) hx hb dX5_increase_9 (by decide) ?_
  refine xt_v (vx_runS (As := [.int p2, .int p3, .int (60 : Int32)]) (rest := []) ⟨hx, hb, hml, hown, hts⟩ (mt_X5_needWindow l hl9 G base h) (va_cwS 3 hts gX5_increase_X5_needWindow rfl rfl rfl (by decide +kernel) ⟨Nat.le_of_ble_eq_true rfl, Nat.le_of_ble_eq_true rfl⟩) (xp_S hbase hh hK hX hS) rfl rfl hl.1 rfl (lv_room (Nat.le_of_ble_eq_true rfl)) dX5_increase_11 ⟨Nat.le_of_ble_eq_true rfl, Nat.le_of_ble_eq_true rfl⟩) hS (fun k9 m9 H locs q9 ce h hh hS hc9 hv9 hcl9 => xe_out hout hlocks hbase hh hK hX hS h hc9 hv9 hcl9 (Nat.le_of_ble_eq_true rfl) (Nat.le_of_ble_eq_true rfl)) (fun m6 H locs h hh hS => ?_)
  refine lv_aload_n hx hb dX5_increase_14 rfl (lv_at hl 1 rfl) ?_
  refine lv_aload hx hb dX5_increase_15 (lv_at hl 0 rfl) ?_
  refine lv_iload_n hx hb dX5_increase_17 rfl (lv_at hl 3 rfl) ?_
  refine lv_iload_n hx hb dX5_increase_18 rfl (lv_at hl 4 rfl) ?_
  obtain ⟨g7, h⟩ := h
  refine xt_l (vx_runV (As := [.ref b4, .int p2, .int p3]) (rest := []) ⟨hx, hb, hml, hown, hts⟩ (mt_X5_increaseIn l hl9 G base h) (cwV 3 hts gX5_increase_X5_increaseIn rfl rfl rfl (by decide +kernel) ⟨Nat.le_of_ble_eq_true rfl, Nat.le_of_ble_eq_true rfl⟩) (xp_V hbase hh hK hX hS (ci := 5) g7 (by decide) rfl) rfl rfl hl.1 rfl (lv_room (Nat.le_of_ble_eq_true rfl)) dX5_increase_19 ⟨Nat.le_of_ble_eq_true rfl, Nat.le_of_ble_eq_true rfl⟩) hS (fun k9 m9 H locs q9 ce h hh hS hc9 hv9 hcl9 => xe_out hout hlocks hbase hh hK hX hS h hc9 hv9 hcl9 (Nat.le_of_ble_eq_true rfl) (Nat.le_of_ble_eq_true rfl)) (fun r8 m9 H locs h hh hS => ?_)
  exact vx_ret (xe_l hx hb hr hlocks hbase hh hK hX hS h (Nat.le_of_ble_eq_true rfl) (Nat.le_of_ble_eq_true rfl) dX5_increase_22)

set_option maxHeartbeats 4000000 in
set_option maxRecDepth 100000 in
theorem mtq_X5_increase (l : Launch) (G : GG) (base : Nat) {a0 : Nat} {p1 : Int32} {p2 : Int32} {p3 : Int32} {m0 : MM} {Q : Int64 → MM → Prop} (h : wp_X5_increase a0 p1 p2 p3 m0 Q (fun _ _ => False)) : Met l yX5_increase wsX5_increase ({ frames := 8, cells := 0, slots := 0, locals := 185 }) (va_Pc [.ref a0, .int p1, .int p2, .int p3] (SP G base m0)) (va_Ql Q (HB G base) (xA base)) 0 0 (xA base) := by
  refine Met.ofW (cc := cX5_increase) (maxL := 5) (ret := (some .long)) (by decide) rfl ?_
  intro p e s m args below meth c s₁ B hml hv
  obtain ⟨rfl, hbase, hh, hK, hX⟩ := hv
  have C0 : BC p s m _ meth c G base RX5 cX5_increase 5 (some .long) wsX5_increase := ⟨B.exec, B.bytes, B.returns, hml, findClass_of_methodNamed B.named, atoms_spec (ws := wsX5_increase) B.pre, B.notSynchronized, hK, hbase, hX⟩
  obtain ⟨hx, hb, hr, -, hown, hts, hlocks, -, -, -⟩ := id C0
  have hS : va_S (xA base) s.heap s.heap [] := va_S.rf
  have hl := lv_entry ([.ref a0, .int p1, .int p2, .int p3]) (n := 5) (Nat.le_of_ble_eq_true rfl)
  rw [lg_entry_eq]
  generalize (lg_sl ([.ref a0, .int p1, .int p2, .int p3]) ++ List.replicate (5 - (lg_sl ([.ref a0, .int p1, .int p2, .int p3])).length) Slot.unset).toArray = ls at hl ⊢
  have hl : lv_has ls 5 [(0, .ref a0), (1, .int p1), (2, .int p2), (3, .int p3)] := hl
  unfold wp_X5_increase at h
  refine lv_aload_n hx hb dX5_increase_0 rfl (lv_at hl 0 rfl) ?_
  refine lv_iload_n hx hb dX5_increase_1 rfl (lv_at hl 1 rfl) ?_
  obtain ⟨g1, h⟩ := h
  refine xc_q (va_runV (As := [.int p1]) (rest := []) ⟨hx, hb, hml, hown, hts⟩ (mtq_X5_seriesAt l G base h) (cwV 1 hts gX5_increase_X5_seriesAt rfl rfl rfl (by decide +kernel) ⟨Nat.le_of_ble_eq_true rfl, Nat.le_of_ble_eq_true rfl⟩) (xp_V hbase hh hK hX hS (ci := 5) g1 (by decide) rfl) rfl rfl hl.1 rfl (lv_room (Nat.le_of_ble_eq_true rfl)) dX5_increase_2 ⟨Nat.le_of_ble_eq_true rfl, Nat.le_of_ble_eq_true rfl⟩) hS (fun r2 m3 H locs h hh hS => ?_)
  obtain ⟨b4, eb4, h⟩ := h
  rw [eb4]
  refine W.eq (g2 := F0 m 5 ls [.ref b4]) rfl ?_
  refine lv_astore (lv' := [(4, .ref b4), (0, .ref a0), (1, .int p1), (2, .int p2), (3, .int p3)]) hx hb dX5_increase_5 hl (by decide) rfl (fun ls hl => ?_)
  refine lv_iload_n hx hb dX5_increase_7 rfl (lv_at hl 3 rfl) ?_
  refine lv_iload_n hx hb dX5_increase_8 rfl (lv_at hl 4 rfl) ?_
  refine lv_bipush (v := 60) hx hb dX5_increase_9 (by decide) ?_
  refine xc_v (va_runS (As := [.int p2, .int p3, .int (60 : Int32)]) (rest := []) ⟨hx, hb, hml, hown, hts⟩ (mtq_X5_needWindow l G base h) (va_cwS 3 hts gX5_increase_X5_needWindow rfl rfl rfl (by decide +kernel) ⟨Nat.le_of_ble_eq_true rfl, Nat.le_of_ble_eq_true rfl⟩) (xp_S hbase hh hK hX hS) rfl rfl hl.1 rfl (lv_room (Nat.le_of_ble_eq_true rfl)) dX5_increase_11 ⟨Nat.le_of_ble_eq_true rfl, Nat.le_of_ble_eq_true rfl⟩) hS (fun m6 H locs h hh hS => ?_)
  refine lv_aload_n hx hb dX5_increase_14 rfl (lv_at hl 1 rfl) ?_
  refine lv_aload hx hb dX5_increase_15 (lv_at hl 0 rfl) ?_
  refine lv_iload_n hx hb dX5_increase_17 rfl (lv_at hl 3 rfl) ?_
  refine lv_iload_n hx hb dX5_increase_18 rfl (lv_at hl 4 rfl) ?_
  obtain ⟨g7, h⟩ := h
  refine xc_l (va_runV (As := [.ref b4, .int p2, .int p3]) (rest := []) ⟨hx, hb, hml, hown, hts⟩ (mtq_X5_increaseIn l G base h) (cwV 3 hts gX5_increase_X5_increaseIn rfl rfl rfl (by decide +kernel) ⟨Nat.le_of_ble_eq_true rfl, Nat.le_of_ble_eq_true rfl⟩) (xp_V hbase hh hK hX hS (ci := 5) g7 (by decide) rfl) rfl rfl hl.1 rfl (lv_room (Nat.le_of_ble_eq_true rfl)) dX5_increase_19 ⟨Nat.le_of_ble_eq_true rfl, Nat.le_of_ble_eq_true rfl⟩) hS (fun r8 m9 H locs h hh hS => ?_)
  exact (xe_l hx hb hr hlocks hbase hh hK hX hS h (Nat.le_of_ble_eq_true rfl) (Nat.le_of_ble_eq_true rfl) dX5_increase_22)

set_option maxHeartbeats 4000000 in
set_option maxRecDepth 100000 in
theorem mt_X5_ratePerHour (l : Launch) (hl9 : l.stackTraces = false) (G : GG) (base : Nat) {a0 : Nat} {p1 : Int32} {p2 : Int32} {p3 : Int32} {m0 : MM} {Q : UInt64 → MM → Prop} {X : Nat → MM → Prop} (h : wp_X5_ratePerHour a0 p1 p2 p3 m0 Q X) : vx_Met l yX5_ratePerHour wsX5_ratePerHour ({ frames := 8, cells := 3, slots := 18, locals := 185 }) (va_Pc [.ref a0, .int p1, .int p2, .int p3] (SP G base m0)) (va_Qd Q (HB G base) (xA base)) (xX G base X) 3 18 (xA base) := by
  refine vx_ofW (cc := cX5_ratePerHour) (maxL := 5) (ret := (some .double)) (by decide) rfl ?_
  intro p e s m args below meth c s₁ B hml hout hv
  obtain ⟨rfl, hbase, hh, hK, hX⟩ := hv
  have C0 : BC p s m _ meth c G base RX5 cX5_ratePerHour 5 (some .double) wsX5_ratePerHour := ⟨B.exec, B.bytes, B.returns, hml, findClass_of_methodNamed B.named, atoms_spec (ws := wsX5_ratePerHour) B.pre, B.notSynchronized, hK, hbase, hX⟩
  obtain ⟨hx, hb, hr, -, hown, hts, hlocks, -, -, -⟩ := id C0
  have hS : va_S (xA base) s.heap s.heap [] := va_S.rf
  have hl := lv_entry ([.ref a0, .int p1, .int p2, .int p3]) (n := 5) (Nat.le_of_ble_eq_true rfl)
  rw [lg_entry_eq]
  generalize (lg_sl ([.ref a0, .int p1, .int p2, .int p3]) ++ List.replicate (5 - (lg_sl ([.ref a0, .int p1, .int p2, .int p3])).length) Slot.unset).toArray = ls at hl ⊢
  have hl : lv_has ls 5 [(0, .ref a0), (1, .int p1), (2, .int p2), (3, .int p3)] := hl
  unfold wp_X5_ratePerHour at h
  have q1 : (Cond.constantDouble RX5 223 (4660134898793709568)).before _ s = true := hts _ (List.mem_cons_of_mem _ (List.mem_append_left _ (List.mem_append_left _ (List.mem_append_left _ (List.mem_append_left _ (List.mem_append_left _ (List.mem_append_left _ (List.mem_append_left _ (List.mem_append_left _ (List.mem_append_left _ (List.mem_of_getElem? (i := 2) rfl)))))))))))
  have hW1 : ∀ w ∈ (vx_atS RX5 222 "java/lang/IllegalArgumentException" ["java/lang/RuntimeException", "java/lang/Exception"]).filter goodWord, w.before _ s = true := fun w h9 => hts w (List.mem_cons_of_mem _ (List.mem_append_left _ (List.mem_append_left _ (List.mem_append_right _ (h9)))))
  have q3 : (Cond.classLink RX5 218 "java/lang/IllegalArgumentException").before _ s = true := hts _ (List.mem_cons_of_mem _ (List.mem_append_left _ (List.mem_append_left _ (List.mem_append_left _ (List.mem_append_left _ (List.mem_append_left _ (List.mem_append_left _ (List.mem_append_left _ (List.mem_append_left _ (List.mem_append_left _ (List.mem_of_getElem? (i := 0) rfl)))))))))))
  have q4 : (Cond.initialized "java/lang/IllegalArgumentException").before _ s = true := hts _ (List.mem_cons_of_mem _ (List.mem_append_left _ (List.mem_append_left _ (List.mem_append_left _ (List.mem_append_left _ (List.mem_append_left _ (List.mem_append_left _ (List.mem_append_left _ (List.mem_append_left _ (List.mem_append_left _ (List.mem_of_getElem? (i := 1) rfl)))))))))))
  refine lv_aload_n hx hb dX5_ratePerHour_0 rfl (lv_at hl 0 rfl) ?_
  refine lv_iload_n hx hb dX5_ratePerHour_1 rfl (lv_at hl 1 rfl) ?_
  obtain ⟨g1, h⟩ := h
  refine xt_q (vx_runV (As := [.int p1]) (rest := []) ⟨hx, hb, hml, hown, hts⟩ (mt_X5_seriesAt l hl9 G base h) (cwV 1 hts gX5_ratePerHour_X5_seriesAt rfl rfl rfl (by decide +kernel) ⟨Nat.le_of_ble_eq_true rfl, Nat.le_of_ble_eq_true rfl⟩) (xp_V hbase hh hK hX hS (ci := 5) g1 (by decide) rfl) rfl rfl hl.1 rfl (lv_room (Nat.le_of_ble_eq_true rfl)) dX5_ratePerHour_2 ⟨Nat.le_of_ble_eq_true rfl, Nat.le_of_ble_eq_true rfl⟩) hS (fun k9 m9 H locs q9 ce h hh hS hc9 hv9 hcl9 => xe_out hout hlocks hbase hh hK hX hS h hc9 hv9 hcl9 (Nat.le_of_ble_eq_true rfl) (Nat.le_of_ble_eq_true rfl)) (fun r2 m3 H locs h hh hS => ?_)
  obtain ⟨b4, eb4, h⟩ := h
  rw [eb4]
  refine W.eq (g2 := F0 m 5 ls [.ref b4]) rfl ?_
  refine lv_astore (lv' := [(4, .ref b4), (0, .ref a0), (1, .int p1), (2, .int p2), (3, .int p3)]) hx hb dX5_ratePerHour_5 hl (by decide) rfl (fun ls hl => ?_)
  refine lv_iload_n hx hb dX5_ratePerHour_7 rfl (lv_at hl 3 rfl) ?_
  refine lv_iload_n hx hb dX5_ratePerHour_8 rfl (lv_at hl 4 rfl) ?_
  refine lv_bipush (v := 60) hx hb dX5_ratePerHour_9 (by decide) ?_
  refine xt_v (vx_runS (As := [.int p2, .int p3, .int (60 : Int32)]) (rest := []) ⟨hx, hb, hml, hown, hts⟩ (mt_X5_needWindow l hl9 G base h) (va_cwS 3 hts gX5_ratePerHour_X5_needWindow rfl rfl rfl (by decide +kernel) ⟨Nat.le_of_ble_eq_true rfl, Nat.le_of_ble_eq_true rfl⟩) (xp_S hbase hh hK hX hS) rfl rfl hl.1 rfl (lv_room (Nat.le_of_ble_eq_true rfl)) dX5_ratePerHour_11 ⟨Nat.le_of_ble_eq_true rfl, Nat.le_of_ble_eq_true rfl⟩) hS (fun k9 m9 H locs q9 ce h hh hS hc9 hv9 hcl9 => xe_out hout hlocks hbase hh hK hX hS h hc9 hv9 hcl9 (Nat.le_of_ble_eq_true rfl) (Nat.le_of_ble_eq_true rfl)) (fun m6 H locs h hh hS => ?_)
  refine lv_iload_n hx hb dX5_ratePerHour_14 rfl (lv_at hl 3 rfl) ?_
  refine lv_iload_n hx hb dX5_ratePerHour_15 rfl (lv_at hl 4 rfl) ?_
  refine lv_icmp_ne (tgt := 29) hx hb dX5_ratePerHour_16 (by decide) (fun c7 => ?_) (fun c7 => ?_)
  · replace h := h.1 c7
    refine lv_aload_n hx hb dX5_ratePerHour_29 rfl (lv_at hl 1 rfl) ?_
    refine lv_aload hx hb dX5_ratePerHour_30 (lv_at hl 0 rfl) ?_
    refine lv_iload_n hx hb dX5_ratePerHour_32 rfl (lv_at hl 3 rfl) ?_
    refine lv_iload_n hx hb dX5_ratePerHour_33 rfl (lv_at hl 4 rfl) ?_
    obtain ⟨g8, h⟩ := h
    refine xt_l (vx_runV (As := [.ref b4, .int p2, .int p3]) (rest := []) ⟨hx, hb, hml, hown, hts⟩ (mt_X5_increaseIn l hl9 G base h) (cwV 3 hts gX5_ratePerHour_X5_increaseIn rfl rfl rfl (by decide +kernel) ⟨Nat.le_of_ble_eq_true rfl, Nat.le_of_ble_eq_true rfl⟩) (xp_V hbase hh hK hX hS (ci := 5) g8 (by decide) rfl) rfl rfl hl.1 rfl (lv_room (Nat.le_of_ble_eq_true rfl)) dX5_ratePerHour_34 ⟨Nat.le_of_ble_eq_true rfl, Nat.le_of_ble_eq_true rfl⟩) hS (fun k9 m9 H locs q9 ce h hh hS hc9 hv9 hcl9 => xe_out hout hlocks hbase hh hK hX hS h hc9 hv9 hcl9 (Nat.le_of_ble_eq_true rfl) (Nat.le_of_ble_eq_true rfl)) (fun r9 m10 H locs h hh hS => ?_)
    refine lv_l2d hx hb dX5_ratePerHour_37 ?_
    refine lv_ldc2d hx hb hown q1 dX5_ratePerHour_38 ?_
    obtain ⟨g11, h⟩ := h
    refine lv_dmul hx hb dX5_ratePerHour_41 g11 ?_
    refine lv_iload_n hx hb dX5_ratePerHour_42 rfl (lv_at hl 4 rfl) ?_
    refine lv_iload_n hx hb dX5_ratePerHour_43 rfl (lv_at hl 3 rfl) ?_
    refine lv_isub hx hb dX5_ratePerHour_44 ?_
    refine lv_i2d hx hb dX5_ratePerHour_45 ?_
    obtain ⟨g12, h⟩ := h
    refine lv_ddiv hx hb dX5_ratePerHour_46 g12 ?_
    exact vx_ret (xe_d hx hb hr hlocks hbase hh hK hX hS h (Nat.le_of_ble_eq_true rfl) (Nat.le_of_ble_eq_true rfl) dX5_ratePerHour_47)
  · replace h := h.2 c7
    exact xe_throw1 (text := "the window is empty") (is := 220) hx hb hl9 hout hlocks hbase hh hX hS hown q3 q4 hW1 (List.mem_of_getElem? (i := 5) rfl) (hl.1.trans hml.symm) dX5_ratePerHour_19 dX5_ratePerHour_22 dX5_ratePerHour_23 dX5_ratePerHour_25 dX5_ratePerHour_28 (Nat.le_of_ble_eq_true rfl) (Nat.le_of_ble_eq_true rfl) (Nat.le_of_ble_eq_true rfl) (Nat.le_of_ble_eq_true rfl) h (Nat.le_of_ble_eq_true rfl) (Nat.le_of_ble_eq_true rfl)

set_option maxHeartbeats 4000000 in
set_option maxRecDepth 100000 in
theorem mtq_X5_ratePerHour (l : Launch) (G : GG) (base : Nat) {a0 : Nat} {p1 : Int32} {p2 : Int32} {p3 : Int32} {m0 : MM} {Q : UInt64 → MM → Prop} (h : wp_X5_ratePerHour a0 p1 p2 p3 m0 Q (fun _ _ => False)) : Met l yX5_ratePerHour wsX5_ratePerHour ({ frames := 8, cells := 0, slots := 0, locals := 185 }) (va_Pc [.ref a0, .int p1, .int p2, .int p3] (SP G base m0)) (va_Qd Q (HB G base) (xA base)) 0 0 (xA base) := by
  refine Met.ofW (cc := cX5_ratePerHour) (maxL := 5) (ret := (some .double)) (by decide) rfl ?_
  intro p e s m args below meth c s₁ B hml hv
  obtain ⟨rfl, hbase, hh, hK, hX⟩ := hv
  have C0 : BC p s m _ meth c G base RX5 cX5_ratePerHour 5 (some .double) wsX5_ratePerHour := ⟨B.exec, B.bytes, B.returns, hml, findClass_of_methodNamed B.named, atoms_spec (ws := wsX5_ratePerHour) B.pre, B.notSynchronized, hK, hbase, hX⟩
  obtain ⟨hx, hb, hr, -, hown, hts, hlocks, -, -, -⟩ := id C0
  have hS : va_S (xA base) s.heap s.heap [] := va_S.rf
  have hl := lv_entry ([.ref a0, .int p1, .int p2, .int p3]) (n := 5) (Nat.le_of_ble_eq_true rfl)
  rw [lg_entry_eq]
  generalize (lg_sl ([.ref a0, .int p1, .int p2, .int p3]) ++ List.replicate (5 - (lg_sl ([.ref a0, .int p1, .int p2, .int p3])).length) Slot.unset).toArray = ls at hl ⊢
  have hl : lv_has ls 5 [(0, .ref a0), (1, .int p1), (2, .int p2), (3, .int p3)] := hl
  unfold wp_X5_ratePerHour at h
  have q1 : (Cond.constantDouble RX5 223 (4660134898793709568)).before _ s = true := hts _ (List.mem_cons_of_mem _ (List.mem_append_left _ (List.mem_append_left _ (List.mem_append_left _ (List.mem_append_left _ (List.mem_append_left _ (List.mem_append_left _ (List.mem_append_left _ (List.mem_append_left _ (List.mem_append_left _ (List.mem_of_getElem? (i := 2) rfl)))))))))))
  refine lv_aload_n hx hb dX5_ratePerHour_0 rfl (lv_at hl 0 rfl) ?_
  refine lv_iload_n hx hb dX5_ratePerHour_1 rfl (lv_at hl 1 rfl) ?_
  obtain ⟨g1, h⟩ := h
  refine xc_q (va_runV (As := [.int p1]) (rest := []) ⟨hx, hb, hml, hown, hts⟩ (mtq_X5_seriesAt l G base h) (cwV 1 hts gX5_ratePerHour_X5_seriesAt rfl rfl rfl (by decide +kernel) ⟨Nat.le_of_ble_eq_true rfl, Nat.le_of_ble_eq_true rfl⟩) (xp_V hbase hh hK hX hS (ci := 5) g1 (by decide) rfl) rfl rfl hl.1 rfl (lv_room (Nat.le_of_ble_eq_true rfl)) dX5_ratePerHour_2 ⟨Nat.le_of_ble_eq_true rfl, Nat.le_of_ble_eq_true rfl⟩) hS (fun r2 m3 H locs h hh hS => ?_)
  obtain ⟨b4, eb4, h⟩ := h
  rw [eb4]
  refine W.eq (g2 := F0 m 5 ls [.ref b4]) rfl ?_
  refine lv_astore (lv' := [(4, .ref b4), (0, .ref a0), (1, .int p1), (2, .int p2), (3, .int p3)]) hx hb dX5_ratePerHour_5 hl (by decide) rfl (fun ls hl => ?_)
  refine lv_iload_n hx hb dX5_ratePerHour_7 rfl (lv_at hl 3 rfl) ?_
  refine lv_iload_n hx hb dX5_ratePerHour_8 rfl (lv_at hl 4 rfl) ?_
  refine lv_bipush (v := 60) hx hb dX5_ratePerHour_9 (by decide) ?_
  refine xc_v (va_runS (As := [.int p2, .int p3, .int (60 : Int32)]) (rest := []) ⟨hx, hb, hml, hown, hts⟩ (mtq_X5_needWindow l G base h) (va_cwS 3 hts gX5_ratePerHour_X5_needWindow rfl rfl rfl (by decide +kernel) ⟨Nat.le_of_ble_eq_true rfl, Nat.le_of_ble_eq_true rfl⟩) (xp_S hbase hh hK hX hS) rfl rfl hl.1 rfl (lv_room (Nat.le_of_ble_eq_true rfl)) dX5_ratePerHour_11 ⟨Nat.le_of_ble_eq_true rfl, Nat.le_of_ble_eq_true rfl⟩) hS (fun m6 H locs h hh hS => ?_)
  refine lv_iload_n hx hb dX5_ratePerHour_14 rfl (lv_at hl 3 rfl) ?_
  refine lv_iload_n hx hb dX5_ratePerHour_15 rfl (lv_at hl 4 rfl) ?_
  refine lv_icmp_ne (tgt := 29) hx hb dX5_ratePerHour_16 (by decide) (fun c7 => ?_) (fun c7 => ?_)
  · replace h := h.1 c7
    refine lv_aload_n hx hb dX5_ratePerHour_29 rfl (lv_at hl 1 rfl) ?_
    refine lv_aload hx hb dX5_ratePerHour_30 (lv_at hl 0 rfl) ?_
    refine lv_iload_n hx hb dX5_ratePerHour_32 rfl (lv_at hl 3 rfl) ?_
    refine lv_iload_n hx hb dX5_ratePerHour_33 rfl (lv_at hl 4 rfl) ?_
    obtain ⟨g8, h⟩ := h
    refine xc_l (va_runV (As := [.ref b4, .int p2, .int p3]) (rest := []) ⟨hx, hb, hml, hown, hts⟩ (mtq_X5_increaseIn l G base h) (cwV 3 hts gX5_ratePerHour_X5_increaseIn rfl rfl rfl (by decide +kernel) ⟨Nat.le_of_ble_eq_true rfl, Nat.le_of_ble_eq_true rfl⟩) (xp_V hbase hh hK hX hS (ci := 5) g8 (by decide) rfl) rfl rfl hl.1 rfl (lv_room (Nat.le_of_ble_eq_true rfl)) dX5_ratePerHour_34 ⟨Nat.le_of_ble_eq_true rfl, Nat.le_of_ble_eq_true rfl⟩) hS (fun r9 m10 H locs h hh hS => ?_)
    refine lv_l2d hx hb dX5_ratePerHour_37 ?_
    refine lv_ldc2d hx hb hown q1 dX5_ratePerHour_38 ?_
    obtain ⟨g11, h⟩ := h
    refine lv_dmul hx hb dX5_ratePerHour_41 g11 ?_
    refine lv_iload_n hx hb dX5_ratePerHour_42 rfl (lv_at hl 4 rfl) ?_
    refine lv_iload_n hx hb dX5_ratePerHour_43 rfl (lv_at hl 3 rfl) ?_
    refine lv_isub hx hb dX5_ratePerHour_44 ?_
    refine lv_i2d hx hb dX5_ratePerHour_45 ?_
    obtain ⟨g12, h⟩ := h
    refine lv_ddiv hx hb dX5_ratePerHour_46 g12 ?_
    exact (xe_d hx hb hr hlocks hbase hh hK hX hS h (Nat.le_of_ble_eq_true rfl) (Nat.le_of_ble_eq_true rfl) dX5_ratePerHour_47)
  · replace h := h.2 c7
    exact h.elim

set_option maxHeartbeats 4000000 in
set_option maxRecDepth 100000 in
theorem mt_X3_expire (l : Launch) (G : GG) (base : Nat) {a0 : Nat} {p1 : Int32} {p2 : Int32} {m0 : MM} {Q : Int32 → MM → Prop} (h : wp_X3_expire a0 p1 p2 m0 Q) : Met l yX3_expire wsX3_expire ({ frames := 3, cells := 0, slots := 0, locals := 114 }) (va_Pc [.ref a0, .int p1, .int p2] (SP G base m0)) (va_Qi Q (HB G base) (xA base)) 0 0 (xA base) := by
  refine Met.ofW (cc := cX3_expire) (maxL := 3) (ret := (some .int)) (by decide) rfl ?_
  intro p e s m args below meth c s₁ B hml hv
  obtain ⟨rfl, hbase, hh, hK, hX⟩ := hv
  have C0 : BC p s m _ meth c G base RX3 cX3_expire 3 (some .int) wsX3_expire := ⟨B.exec, B.bytes, B.returns, hml, findClass_of_methodNamed B.named, atoms_spec (ws := wsX3_expire) B.pre, B.notSynchronized, hK, hbase, hX⟩
  obtain ⟨hx, hb, hr, -, hown, hts, hlocks, -, -, -⟩ := id C0
  have hS : va_S (xA base) s.heap s.heap [] := va_S.rf
  have hl := lv_entry ([.ref a0, .int p1, .int p2]) (n := 3) (Nat.le_of_ble_eq_true rfl)
  rw [lg_entry_eq]
  generalize (lg_sl ([.ref a0, .int p1, .int p2]) ++ List.replicate (3 - (lg_sl ([.ref a0, .int p1, .int p2])).length) Slot.unset).toArray = ls at hl ⊢
  have hl : lv_has ls 3 [(0, .ref a0), (1, .int p1), (2, .int p2)] := hl
  unfold wp_X3_expire at h
  have hL3 : ∀ w ∈ u_ws RX3 TX3 5, w.before _ s = true := fun w h9 => hts w (List.mem_cons_of_mem _ (List.mem_append_left _ (List.mem_append_left _ (List.mem_append_left _ (List.mem_append_right _ (h9))))))
  have q2 : (Cond.fieldLink RX3 12 "RollupStore$Series" "points" "LRollupStore$Points;").before _ s = true := hts _ (List.mem_cons_of_mem _ (List.mem_append_left _ (List.mem_append_left _ (List.mem_append_left _ (List.mem_append_left _ (List.mem_append_left _ (List.mem_of_getElem? (i := 0) rfl)))))))
  refine lv_iload_n hx hb dX3_expire_0 rfl (lv_at hl 1 rfl) ?_
  refine lv_if_ne (tgt := 15) hx hb dX3_expire_1 (by decide) (fun c1 => ?_) (fun c1 => ?_)
  · replace h := h.1 c1
    refine lv_aload_n hx hb dX3_expire_15 rfl (lv_at hl 0 rfl) ?_
    refine lv_iload_n hx hb dX3_expire_16 rfl (lv_at hl 1 rfl) ?_
    obtain ⟨g2, h⟩ := h
    refine xc_q (va_runV (As := [.int p1]) (rest := []) ⟨hx, hb, hml, hown, hts⟩ (mt_X3_rollupsOf l G base h) (cwV 1 hts gX3_expire_X3_rollupsOf rfl rfl rfl (by decide +kernel) ⟨Nat.le_of_ble_eq_true rfl, Nat.le_of_ble_eq_true rfl⟩) (xp_V hbase hh hK hX hS (ci := 3) g2 (by decide) rfl) rfl rfl hl.1 rfl (lv_room (Nat.le_of_ble_eq_true rfl)) dX3_expire_17 ⟨Nat.le_of_ble_eq_true rfl, Nat.le_of_ble_eq_true rfl⟩) hS (fun r3 m4 H locs h hh hS => ?_)
    refine lv_iload_n hx hb dX3_expire_20 rfl (lv_at hl 2 rfl) ?_
    obtain ⟨b5, eb5, h⟩ := h
    rw [eb5]
    refine W.eq (g2 := F0 m 21 ls [.int p2, .ref b5]) rfl ?_
    obtain ⟨g6, h⟩ := h
    refine xc_i (va_runV (As := [.int p2]) (rest := []) ⟨hx, hb, hml, hown, hts⟩ (mt_X2_expire l G base h) (cwV 1 hts gX3_expire_X2_expire rfl rfl rfl (by decide +kernel) ⟨Nat.le_of_ble_eq_true rfl, Nat.le_of_ble_eq_true rfl⟩) (xp_V hbase hh hK hX hS (ci := 2) g6 (by decide) rfl) rfl rfl hl.1 rfl (lv_room (Nat.le_of_ble_eq_true rfl)) dX3_expire_21 ⟨Nat.le_of_ble_eq_true rfl, Nat.le_of_ble_eq_true rfl⟩) hS (fun r7 m8 H locs h hh hS => ?_)
    exact (xe_i hx hb hr hlocks hbase hh hK hX hS h (Nat.le_of_ble_eq_true rfl) (Nat.le_of_ble_eq_true rfl) dX3_expire_24)
  · replace h := h.2 c1
    refine lv_aload_n hx hb dX3_expire_4 rfl (lv_at hl 0 rfl) ?_
    obtain ⟨g9, h⟩ := h
    obtain ⟨b10, eb10, h⟩ := h
    refine xr_getR (ci := 3) (C := RX3) (T := TX3) (N := 5) hx hb hL3 hown hK hh g9 (by decide) rfl 1 61 rfl rfl (by decide) (by decide) q2 (fun _ h9 => h9) eb10 dX3_expire_5 ?_
    refine lv_iload_n hx hb dX3_expire_8 rfl (lv_at hl 2 rfl) ?_
    obtain ⟨g11, h⟩ := h
    refine xc_i (va_runV (As := [.int p2]) (rest := []) ⟨hx, hb, hml, hown, hts⟩ (mt_X0_expire l G base h) (cwV 1 hts gX3_expire_X0_expire rfl rfl rfl (by decide +kernel) ⟨Nat.le_of_ble_eq_true rfl, Nat.le_of_ble_eq_true rfl⟩) (xp_V hbase hh hK hX hS (ci := 0) g11 (by decide) rfl) rfl rfl hl.1 rfl (lv_room (Nat.le_of_ble_eq_true rfl)) dX3_expire_9 ⟨Nat.le_of_ble_eq_true rfl, Nat.le_of_ble_eq_true rfl⟩) hS (fun r12 m13 H locs h hh hS => ?_)
    refine lv_goto (tgt := 24) hx hb dX3_expire_12 (by decide) ?_
    exact (xe_i hx hb hr hlocks hbase hh hK hX hS h (Nat.le_of_ble_eq_true rfl) (Nat.le_of_ble_eq_true rfl) dX3_expire_24)

set_option maxHeartbeats 4000000 in
set_option maxRecDepth 100000 in
theorem bk_X5_moveHorizon_30 {p : Program} {l : Launch} {e : Env} {s : State} {m : MethodId} {args : Array Value} {below : List Frame} {meth : Method} {c : Code} {G : GG} {base : Nat} (C0 : BC p s m args meth c G base RX5 cX5_moveHorizon 4 (some .int) wsX5_moveHorizon) (hl9 : l.stackTraces = false) (hout : ∀ x ∈ c.exceptionTable.toList, False) {Q : Int32 → MM → Prop} {X : Nat → MM → Prop} : ∀ (n : Nat) (l0 : Nat) (l1 : Int32) (l2 : Int32) (l3 : Int32) (m0 : MM) (H : Heap) (locs : List Loc) (ls : Array Slot), wp_X5_moveHorizon_30 Q X n l0 l1 l2 l3 m0 → hp G (xA base) m0 H → va_S (xA base) s.heap H locs → lv_has ls 4 [(0, .ref l0), (1, .int l1), (2, .int l2), (3, .int l3)] → W p l e ({ frames := 7, cells := 0, slots := 0, locals := 136 } : Room) s m args below meth c H locs 0 0 (vx_MQ below (va_Qi Q (HB G base) (xA base)) (xX G base X) args s 0 0 (xA base)) (F0 m 30 ls []) := by
  obtain ⟨hx, hb, hr, hml, hown, hts, hlocks, hK, hbase, hX⟩ := id C0
  intro n
  induction n with
  | zero =>
    intro l0 l1 l2 l3 m0 H locs ls h
    unfold wp_X5_moveHorizon_30 at h
    exact h.elim
  | succ n ih =>
    intro l0 l1 l2 l3 m0 H locs ls h hh hS hl
    unfold wp_X5_moveHorizon_30 at h
    have hL5 : ∀ w ∈ u_ws RX5 TX5 7, w.before _ s = true := fun w h9 => hts w (List.mem_cons_of_mem _ (List.mem_append_left _ (List.mem_append_left _ (List.mem_append_left _ (List.mem_append_left _ (List.mem_append_left _ (List.mem_append_right _ (h9))))))))
    have q2 : (Cond.fieldLink RX5 43 "RollupStore" "howMany" "I").before _ s = true := hts _ (List.mem_cons_of_mem _ (List.mem_append_left _ (List.mem_append_left _ (List.mem_append_left _ (List.mem_append_left _ (List.mem_append_left _ (List.mem_append_left _ (List.mem_append_left _ (List.mem_of_getElem? (i := 7) rfl)))))))))
    have q3 : (Cond.fieldLink RX5 22 "RollupStore" "horizon" "[I").before _ s = true := hts _ (List.mem_cons_of_mem _ (List.mem_append_left _ (List.mem_append_left _ (List.mem_append_left _ (List.mem_append_left _ (List.mem_append_left _ (List.mem_append_left _ (List.mem_append_left _ (List.mem_of_getElem? (i := 0) rfl)))))))))
    refine lv_iload_n hx hb dX5_moveHorizon_30 rfl (lv_at hl 3 rfl) ?_
    refine lv_aload_n hx hb dX5_moveHorizon_31 rfl (lv_at hl 0 rfl) ?_
    obtain ⟨g17, h⟩ := h
    refine xr_getI (ci := 5) (C := RX5) (T := TX5) (N := 7) hx hb hL5 hown hK hh g17 (by decide) rfl 1 101 rfl rfl (by decide) (by decide) q2 (fun _ h9 => h9) dX5_moveHorizon_32 ?_
    refine lv_icmp_ge (tgt := 62) hx hb dX5_moveHorizon_35 (by decide) (fun c18 => ?_) (fun c18 => ?_)
    · replace h := h.1 c18
      refine lv_iload_n hx hb dX5_moveHorizon_62 rfl (lv_at hl 2 rfl) ?_
      exact vx_ret (xe_i hx hb hr hlocks hbase hh hK hX hS h (Nat.le_of_ble_eq_true rfl) (Nat.le_of_ble_eq_true rfl) dX5_moveHorizon_63)
    · replace h := h.2 c18
      refine lv_iload_n hx hb dX5_moveHorizon_38 rfl (lv_at hl 2 rfl) ?_
      refine lv_aload_n hx hb dX5_moveHorizon_39 rfl (lv_at hl 0 rfl) ?_
      refine lv_iload_n hx hb dX5_moveHorizon_40 rfl (lv_at hl 3 rfl) ?_
      obtain ⟨g19, h⟩ := h
      refine xc_q (va_runV (As := [.int l3]) (rest := [.int l2]) ⟨hx, hb, hml, hown, hts⟩ (mtq_X5_seriesAt l G base h) (cwV 1 hts gX5_moveHorizon_X5_seriesAt rfl rfl rfl (by decide +kernel) ⟨Nat.le_of_ble_eq_true rfl, Nat.le_of_ble_eq_true rfl⟩) (xp_V hbase hh hK hX hS (ci := 5) g19 (by decide) rfl) rfl rfl hl.1 rfl (lv_room (Nat.le_of_ble_eq_true rfl)) dX5_moveHorizon_41 ⟨Nat.le_of_ble_eq_true rfl, Nat.le_of_ble_eq_true rfl⟩) hS (fun r20 m21 H locs h hh hS => ?_)
      refine lv_iload_n hx hb dX5_moveHorizon_44 rfl (lv_at hl 1 rfl) ?_
      refine lv_aload_n hx hb dX5_moveHorizon_45 rfl (lv_at hl 0 rfl) ?_
      obtain ⟨g22, h⟩ := h
      obtain ⟨b23, eb23, h⟩ := h
      refine xr_getR (ci := 5) (C := RX5) (T := TX5) (N := 7) hx hb hL5 hown hK hh g22 (by decide) rfl 4 104 rfl rfl (by decide) (by decide) q3 (fun _ h9 => h9) eb23 dX5_moveHorizon_46 ?_
      refine lv_iload_n hx hb dX5_moveHorizon_49 rfl (lv_at hl 1 rfl) ?_
      obtain ⟨g24, h⟩ := h
      obtain ⟨g25, h⟩ := h
      refine xr_iald hx hb hK hh g24 g25 dX5_moveHorizon_50 ?_
      obtain ⟨b26, eb26, h⟩ := h
      rw [eb26]
      refine W.eq (g2 := F0 m 51 ls [.int (mAI m21 b23 l1.toNatClampNeg), .int l1, .ref b26, .int l2]) rfl ?_
      obtain ⟨g27, h⟩ := h
      refine xc_i (va_runV (As := [.int l1, .int (mAI m21 b23 l1.toNatClampNeg)]) (rest := [.int l2]) ⟨hx, hb, hml, hown, hts⟩ (mt_X3_expire l G base h) (cwV 2 hts gX5_moveHorizon_X3_expire rfl rfl rfl (by decide +kernel) ⟨Nat.le_of_ble_eq_true rfl, Nat.le_of_ble_eq_true rfl⟩) (xp_V hbase hh hK hX hS (ci := 3) g27 (by decide) rfl) rfl rfl hl.1 rfl (lv_room (Nat.le_of_ble_eq_true rfl)) dX5_moveHorizon_51 ⟨Nat.le_of_ble_eq_true rfl, Nat.le_of_ble_eq_true rfl⟩) hS (fun r28 m29 H locs h hh hS => ?_)
      refine lv_iadd hx hb dX5_moveHorizon_54 ?_
      refine lv_topi (fun x30 ex30 => ?_)
      replace h := h x30 ex30
      refine lv_istore_n (lv' := [(2, .int x30), (0, .ref l0), (1, .int l1), (3, .int l3)]) hx hb dX5_moveHorizon_55 rfl hl (by decide) rfl (fun ls hl => ?_)
      obtain ⟨x31, ex31⟩ : ∃ y : Int32, y = l3 + 1 := ⟨_, rfl⟩
      replace h := h x31 ex31
      refine lv_iinc (v := x31) (lv' := [(3, .int x31), (2, .int x30), (0, .ref l0), (1, .int l1)]) hx hb dX5_moveHorizon_56 hl (k := 3) rfl (by rw [ex31]; rfl) (by decide) rfl (fun ls hl => ?_)
      refine lv_goto (tgt := 30) hx hb dX5_moveHorizon_59 (by decide) ?_
      exact ih _ _ _ _ _ _ _ _ h hh hS (lv_sub hl [2, 3, 1, 0] rfl)

set_option maxHeartbeats 4000000 in
set_option maxRecDepth 100000 in
theorem mt_X5_moveHorizon (l : Launch) (hl9 : l.stackTraces = false) (G : GG) (base : Nat) {a0 : Nat} {p1 : Int32} {m0 : MM} {Q : Int32 → MM → Prop} {X : Nat → MM → Prop} (h : wp_X5_moveHorizon a0 p1 m0 Q X) : vx_Met l yX5_moveHorizon wsX5_moveHorizon ({ frames := 7, cells := 0, slots := 0, locals := 136 }) (va_Pc [.ref a0, .int p1] (SP G base m0)) (va_Qi Q (HB G base) (xA base)) (xX G base X) 0 0 (xA base) := by
  refine vx_ofW (cc := cX5_moveHorizon) (maxL := 4) (ret := (some .int)) (by decide) rfl ?_
  intro p e s m args below meth c s₁ B hml hout hv
  obtain ⟨rfl, hbase, hh, hK, hX⟩ := hv
  have C0 : BC p s m _ meth c G base RX5 cX5_moveHorizon 4 (some .int) wsX5_moveHorizon := ⟨B.exec, B.bytes, B.returns, hml, findClass_of_methodNamed B.named, atoms_spec (ws := wsX5_moveHorizon) B.pre, B.notSynchronized, hK, hbase, hX⟩
  obtain ⟨hx, hb, hr, -, hown, hts, hlocks, -, -, -⟩ := id C0
  have hS : va_S (xA base) s.heap s.heap [] := va_S.rf
  have hl := lv_entry ([.ref a0, .int p1]) (n := 4) (Nat.le_of_ble_eq_true rfl)
  rw [lg_entry_eq]
  generalize (lg_sl ([.ref a0, .int p1]) ++ List.replicate (4 - (lg_sl ([.ref a0, .int p1])).length) Slot.unset).toArray = ls at hl ⊢
  have hl : lv_has ls 4 [(0, .ref a0), (1, .int p1)] := hl
  unfold wp_X5_moveHorizon at h
  have hL5 : ∀ w ∈ u_ws RX5 TX5 7, w.before _ s = true := fun w h9 => hts w (List.mem_cons_of_mem _ (List.mem_append_left _ (List.mem_append_left _ (List.mem_append_left _ (List.mem_append_left _ (List.mem_append_left _ (List.mem_append_right _ (h9))))))))
  have q2 : (Cond.fieldLink RX5 22 "RollupStore" "horizon" "[I").before _ s = true := hts _ (List.mem_cons_of_mem _ (List.mem_append_left _ (List.mem_append_left _ (List.mem_append_left _ (List.mem_append_left _ (List.mem_append_left _ (List.mem_append_left _ (List.mem_append_left _ (List.mem_of_getElem? (i := 0) rfl)))))))))
  have q3 : (Cond.fieldLink RX5 105 "RollupStore" "clock" "I").before _ s = true := hts _ (List.mem_cons_of_mem _ (List.mem_append_left _ (List.mem_append_left _ (List.mem_append_left _ (List.mem_append_left _ (List.mem_append_left _ (List.mem_append_left _ (List.mem_append_left _ (List.mem_of_getElem? (i := 1) rfl)))))))))
  have q4 : (Cond.fieldLink RX5 18 "RollupStore" "retention" "[I").before _ s = true := hts _ (List.mem_cons_of_mem _ (List.mem_append_left _ (List.mem_append_left _ (List.mem_append_left _ (List.mem_append_left _ (List.mem_append_left _ (List.mem_append_left _ (List.mem_append_left _ (List.mem_of_getElem? (i := 2) rfl)))))))))
  have q5 : (Cond.methodLink RX5 157 Lib.Math.max.name).before _ s = true := hts _ (List.mem_cons_of_mem _ (List.mem_append_left _ (List.mem_append_left _ (List.mem_append_left _ (List.mem_append_left _ (List.mem_append_left _ (List.mem_append_left _ (List.mem_append_left _ (List.mem_of_getElem? (i := 3) rfl)))))))))
  have q6 : (Cond.static Lib.Math.max.name).before _ s = true := hts _ (List.mem_cons_of_mem _ (List.mem_append_left _ (List.mem_append_left _ (List.mem_append_left _ (List.mem_append_left _ (List.mem_append_left _ (List.mem_append_left _ (List.mem_append_left _ (List.mem_of_getElem? (i := 4) rfl)))))))))
  have q7 : (Cond.initialized "java/lang/Math").before _ s = true := hts _ (List.mem_cons_of_mem _ (List.mem_append_left _ (List.mem_append_left _ (List.mem_append_left _ (List.mem_append_left _ (List.mem_append_left _ (List.mem_append_left _ (List.mem_append_left _ (List.mem_of_getElem? (i := 5) rfl)))))))))
  have q8 : (Cond.code Lib.Math.max.name Lib.Math.max.code 2 (some .int)).before _ s = true := hts _ (List.mem_cons_of_mem _ (List.mem_append_left _ (List.mem_append_left _ (List.mem_append_left _ (List.mem_append_left _ (List.mem_append_left _ (List.mem_append_left _ (List.mem_append_left _ (List.mem_of_getElem? (i := 6) rfl)))))))))
  refine lv_aload_n hx hb dX5_moveHorizon_0 rfl (lv_at hl 0 rfl) ?_
  obtain ⟨g1, h⟩ := h
  obtain ⟨b2, eb2, h⟩ := h
  refine xr_getR (ci := 5) (C := RX5) (T := TX5) (N := 7) hx hb hL5 hown hK hh g1 (by decide) rfl 4 104 rfl rfl (by decide) (by decide) q2 (fun _ h9 => h9) eb2 dX5_moveHorizon_1 ?_
  refine lv_iload_n hx hb dX5_moveHorizon_4 rfl (lv_at hl 1 rfl) ?_
  refine lv_aload_n hx hb dX5_moveHorizon_5 rfl (lv_at hl 0 rfl) ?_
  obtain ⟨g3, h⟩ := h
  obtain ⟨b4, eb4, h⟩ := h
  refine xr_getR (ci := 5) (C := RX5) (T := TX5) (N := 7) hx hb hL5 hown hK hh g3 (by decide) rfl 4 104 rfl rfl (by decide) (by decide) q2 (fun _ h9 => h9) eb4 dX5_moveHorizon_6 ?_
  refine lv_iload_n hx hb dX5_moveHorizon_9 rfl (lv_at hl 1 rfl) ?_
  obtain ⟨g5, h⟩ := h
  obtain ⟨g6, h⟩ := h
  refine xr_iald hx hb hK hh g5 g6 dX5_moveHorizon_10 ?_
  refine lv_aload_n hx hb dX5_moveHorizon_11 rfl (lv_at hl 0 rfl) ?_
  obtain ⟨g7, h⟩ := h
  refine xr_getI (ci := 5) (C := RX5) (T := TX5) (N := 7) hx hb hL5 hown hK hh g7 (by decide) rfl 2 102 rfl rfl (by decide) (by decide) q3 (fun _ h9 => h9) dX5_moveHorizon_12 ?_
  refine lv_aload_n hx hb dX5_moveHorizon_15 rfl (lv_at hl 0 rfl) ?_
  obtain ⟨g8, h⟩ := h
  obtain ⟨b9, eb9, h⟩ := h
  refine xr_getR (ci := 5) (C := RX5) (T := TX5) (N := 7) hx hb hL5 hown hK hh g8 (by decide) rfl 3 103 rfl rfl (by decide) (by decide) q4 (fun _ h9 => h9) eb9 dX5_moveHorizon_16 ?_
  refine lv_iload_n hx hb dX5_moveHorizon_19 rfl (lv_at hl 1 rfl) ?_
  obtain ⟨g10, h⟩ := h
  obtain ⟨g11, h⟩ := h
  refine xr_iald hx hb hK hh g10 g11 dX5_moveHorizon_20 ?_
  refine lv_isub hx hb dX5_moveHorizon_21 ?_
  refine va_mmax hx hb (hml.trans hl.1.symm) hown q5 q6 q7 q8 (Nat.le_of_ble_eq_true rfl) (Nat.le_of_ble_eq_true rfl) (Nat.le_of_ble_eq_true rfl) (Nat.le_of_ble_eq_true rfl) dX5_moveHorizon_22 ?_
  obtain ⟨g12, h⟩ := h
  obtain ⟨g13, h⟩ := h
  refine xr_iast hx hb hK hh g12 hS g13 dX5_moveHorizon_25 (fun H locs hh hS => ?_)
  obtain ⟨m14, em14⟩ : ∃ z : MM, z = sAI m0 b2 (va_up (mAI m0 b2) p1.toNatClampNeg (if (mAI m0 b4 p1.toNatClampNeg) < ((mI m0 102 a0) - (mAI m0 b9 p1.toNatClampNeg)) then ((mI m0 102 a0) - (mAI m0 b9 p1.toNatClampNeg)) else (mAI m0 b4 p1.toNatClampNeg))) := ⟨_, rfl⟩
  rw [← em14] at hh
  replace h := h m14 em14
  refine lv_iconst (v := 0) hx hb dX5_moveHorizon_26 (by decide) ?_
  refine lv_topi (fun x15 ex15 => ?_)
  replace h := h x15 ex15
  refine lv_istore_n (lv' := [(2, .int x15), (0, .ref a0), (1, .int p1)]) hx hb dX5_moveHorizon_27 rfl hl (by decide) rfl (fun ls hl => ?_)
  refine lv_iconst (v := 0) hx hb dX5_moveHorizon_28 (by decide) ?_
  refine lv_topi (fun x16 ex16 => ?_)
  replace h := h x16 ex16
  refine lv_istore_n (lv' := [(3, .int x16), (2, .int x15), (0, .ref a0), (1, .int p1)]) hx hb dX5_moveHorizon_29 rfl hl (by decide) rfl (fun ls hl => ?_)
  obtain ⟨n9, h⟩ := h
  exact bk_X5_moveHorizon_30 C0 hl9 hout  n9 _ _ _ _ _ _ _ _ h hh hS (lv_sub hl [2, 3, 1, 0] rfl)

set_option maxHeartbeats 4000000 in
set_option maxRecDepth 100000 in
theorem bkq_X5_moveHorizon_30 {p : Program} {l : Launch} {e : Env} {s : State} {m : MethodId} {args : Array Value} {below : List Frame} {meth : Method} {c : Code} {G : GG} {base : Nat} (C0 : BC p s m args meth c G base RX5 cX5_moveHorizon 4 (some .int) wsX5_moveHorizon) {Q : Int32 → MM → Prop} : ∀ (n : Nat) (l0 : Nat) (l1 : Int32) (l2 : Int32) (l3 : Int32) (m0 : MM) (H : Heap) (locs : List Loc) (ls : Array Slot), wp_X5_moveHorizon_30 Q (fun _ _ => False) n l0 l1 l2 l3 m0 → hp G (xA base) m0 H → va_S (xA base) s.heap H locs → lv_has ls 4 [(0, .ref l0), (1, .int l1), (2, .int l2), (3, .int l3)] → W p l e ({ frames := 7, cells := 0, slots := 0, locals := 136 } : Room) s m args below meth c H locs 0 0 (MQ below (va_Qi Q (HB G base) (xA base)) args s 0 0 (xA base)) (F0 m 30 ls []) := by
  obtain ⟨hx, hb, hr, hml, hown, hts, hlocks, hK, hbase, hX⟩ := id C0
  intro n
  induction n with
  | zero =>
    intro l0 l1 l2 l3 m0 H locs ls h
    unfold wp_X5_moveHorizon_30 at h
    exact h.elim
  | succ n ih =>
    intro l0 l1 l2 l3 m0 H locs ls h hh hS hl
    unfold wp_X5_moveHorizon_30 at h
    have hL5 : ∀ w ∈ u_ws RX5 TX5 7, w.before _ s = true := fun w h9 => hts w (List.mem_cons_of_mem _ (List.mem_append_left _ (List.mem_append_left _ (List.mem_append_left _ (List.mem_append_left _ (List.mem_append_left _ (List.mem_append_right _ (h9))))))))
    have q2 : (Cond.fieldLink RX5 43 "RollupStore" "howMany" "I").before _ s = true := hts _ (List.mem_cons_of_mem _ (List.mem_append_left _ (List.mem_append_left _ (List.mem_append_left _ (List.mem_append_left _ (List.mem_append_left _ (List.mem_append_left _ (List.mem_append_left _ (List.mem_of_getElem? (i := 7) rfl)))))))))
    have q3 : (Cond.fieldLink RX5 22 "RollupStore" "horizon" "[I").before _ s = true := hts _ (List.mem_cons_of_mem _ (List.mem_append_left _ (List.mem_append_left _ (List.mem_append_left _ (List.mem_append_left _ (List.mem_append_left _ (List.mem_append_left _ (List.mem_append_left _ (List.mem_of_getElem? (i := 0) rfl)))))))))
    refine lv_iload_n hx hb dX5_moveHorizon_30 rfl (lv_at hl 3 rfl) ?_
    refine lv_aload_n hx hb dX5_moveHorizon_31 rfl (lv_at hl 0 rfl) ?_
    obtain ⟨g17, h⟩ := h
    refine xr_getI (ci := 5) (C := RX5) (T := TX5) (N := 7) hx hb hL5 hown hK hh g17 (by decide) rfl 1 101 rfl rfl (by decide) (by decide) q2 (fun _ h9 => h9) dX5_moveHorizon_32 ?_
    refine lv_icmp_ge (tgt := 62) hx hb dX5_moveHorizon_35 (by decide) (fun c18 => ?_) (fun c18 => ?_)
    · replace h := h.1 c18
      refine lv_iload_n hx hb dX5_moveHorizon_62 rfl (lv_at hl 2 rfl) ?_
      exact (xe_i hx hb hr hlocks hbase hh hK hX hS h (Nat.le_of_ble_eq_true rfl) (Nat.le_of_ble_eq_true rfl) dX5_moveHorizon_63)
    · replace h := h.2 c18
      refine lv_iload_n hx hb dX5_moveHorizon_38 rfl (lv_at hl 2 rfl) ?_
      refine lv_aload_n hx hb dX5_moveHorizon_39 rfl (lv_at hl 0 rfl) ?_
      refine lv_iload_n hx hb dX5_moveHorizon_40 rfl (lv_at hl 3 rfl) ?_
      obtain ⟨g19, h⟩ := h
      refine xc_q (va_runV (As := [.int l3]) (rest := [.int l2]) ⟨hx, hb, hml, hown, hts⟩ (mtq_X5_seriesAt l G base h) (cwV 1 hts gX5_moveHorizon_X5_seriesAt rfl rfl rfl (by decide +kernel) ⟨Nat.le_of_ble_eq_true rfl, Nat.le_of_ble_eq_true rfl⟩) (xp_V hbase hh hK hX hS (ci := 5) g19 (by decide) rfl) rfl rfl hl.1 rfl (lv_room (Nat.le_of_ble_eq_true rfl)) dX5_moveHorizon_41 ⟨Nat.le_of_ble_eq_true rfl, Nat.le_of_ble_eq_true rfl⟩) hS (fun r20 m21 H locs h hh hS => ?_)
      refine lv_iload_n hx hb dX5_moveHorizon_44 rfl (lv_at hl 1 rfl) ?_
      refine lv_aload_n hx hb dX5_moveHorizon_45 rfl (lv_at hl 0 rfl) ?_
      obtain ⟨g22, h⟩ := h
      obtain ⟨b23, eb23, h⟩ := h
      refine xr_getR (ci := 5) (C := RX5) (T := TX5) (N := 7) hx hb hL5 hown hK hh g22 (by decide) rfl 4 104 rfl rfl (by decide) (by decide) q3 (fun _ h9 => h9) eb23 dX5_moveHorizon_46 ?_
      refine lv_iload_n hx hb dX5_moveHorizon_49 rfl (lv_at hl 1 rfl) ?_
      obtain ⟨g24, h⟩ := h
      obtain ⟨g25, h⟩ := h
      refine xr_iald hx hb hK hh g24 g25 dX5_moveHorizon_50 ?_
      obtain ⟨b26, eb26, h⟩ := h
      rw [eb26]
      refine W.eq (g2 := F0 m 51 ls [.int (mAI m21 b23 l1.toNatClampNeg), .int l1, .ref b26, .int l2]) rfl ?_
      obtain ⟨g27, h⟩ := h
      refine xc_i (va_runV (As := [.int l1, .int (mAI m21 b23 l1.toNatClampNeg)]) (rest := [.int l2]) ⟨hx, hb, hml, hown, hts⟩ (mt_X3_expire l G base h) (cwV 2 hts gX5_moveHorizon_X3_expire rfl rfl rfl (by decide +kernel) ⟨Nat.le_of_ble_eq_true rfl, Nat.le_of_ble_eq_true rfl⟩) (xp_V hbase hh hK hX hS (ci := 3) g27 (by decide) rfl) rfl rfl hl.1 rfl (lv_room (Nat.le_of_ble_eq_true rfl)) dX5_moveHorizon_51 ⟨Nat.le_of_ble_eq_true rfl, Nat.le_of_ble_eq_true rfl⟩) hS (fun r28 m29 H locs h hh hS => ?_)
      refine lv_iadd hx hb dX5_moveHorizon_54 ?_
      refine lv_topi (fun x30 ex30 => ?_)
      replace h := h x30 ex30
      refine lv_istore_n (lv' := [(2, .int x30), (0, .ref l0), (1, .int l1), (3, .int l3)]) hx hb dX5_moveHorizon_55 rfl hl (by decide) rfl (fun ls hl => ?_)
      obtain ⟨x31, ex31⟩ : ∃ y : Int32, y = l3 + 1 := ⟨_, rfl⟩
      replace h := h x31 ex31
      refine lv_iinc (v := x31) (lv' := [(3, .int x31), (2, .int x30), (0, .ref l0), (1, .int l1)]) hx hb dX5_moveHorizon_56 hl (k := 3) rfl (by rw [ex31]; rfl) (by decide) rfl (fun ls hl => ?_)
      refine lv_goto (tgt := 30) hx hb dX5_moveHorizon_59 (by decide) ?_
      exact ih _ _ _ _ _ _ _ _ h hh hS (lv_sub hl [2, 3, 1, 0] rfl)

set_option maxHeartbeats 4000000 in
set_option maxRecDepth 100000 in
theorem mtq_X5_moveHorizon (l : Launch) (G : GG) (base : Nat) {a0 : Nat} {p1 : Int32} {m0 : MM} {Q : Int32 → MM → Prop} (h : wp_X5_moveHorizon a0 p1 m0 Q (fun _ _ => False)) : Met l yX5_moveHorizon wsX5_moveHorizon ({ frames := 7, cells := 0, slots := 0, locals := 136 }) (va_Pc [.ref a0, .int p1] (SP G base m0)) (va_Qi Q (HB G base) (xA base)) 0 0 (xA base) := by
  refine Met.ofW (cc := cX5_moveHorizon) (maxL := 4) (ret := (some .int)) (by decide) rfl ?_
  intro p e s m args below meth c s₁ B hml hv
  obtain ⟨rfl, hbase, hh, hK, hX⟩ := hv
  have C0 : BC p s m _ meth c G base RX5 cX5_moveHorizon 4 (some .int) wsX5_moveHorizon := ⟨B.exec, B.bytes, B.returns, hml, findClass_of_methodNamed B.named, atoms_spec (ws := wsX5_moveHorizon) B.pre, B.notSynchronized, hK, hbase, hX⟩
  obtain ⟨hx, hb, hr, -, hown, hts, hlocks, -, -, -⟩ := id C0
  have hS : va_S (xA base) s.heap s.heap [] := va_S.rf
  have hl := lv_entry ([.ref a0, .int p1]) (n := 4) (Nat.le_of_ble_eq_true rfl)
  rw [lg_entry_eq]
  generalize (lg_sl ([.ref a0, .int p1]) ++ List.replicate (4 - (lg_sl ([.ref a0, .int p1])).length) Slot.unset).toArray = ls at hl ⊢
  have hl : lv_has ls 4 [(0, .ref a0), (1, .int p1)] := hl
  unfold wp_X5_moveHorizon at h
  have hL5 : ∀ w ∈ u_ws RX5 TX5 7, w.before _ s = true := fun w h9 => hts w (List.mem_cons_of_mem _ (List.mem_append_left _ (List.mem_append_left _ (List.mem_append_left _ (List.mem_append_left _ (List.mem_append_left _ (List.mem_append_right _ (h9))))))))
  have q2 : (Cond.fieldLink RX5 22 "RollupStore" "horizon" "[I").before _ s = true := hts _ (List.mem_cons_of_mem _ (List.mem_append_left _ (List.mem_append_left _ (List.mem_append_left _ (List.mem_append_left _ (List.mem_append_left _ (List.mem_append_left _ (List.mem_append_left _ (List.mem_of_getElem? (i := 0) rfl)))))))))
  have q3 : (Cond.fieldLink RX5 105 "RollupStore" "clock" "I").before _ s = true := hts _ (List.mem_cons_of_mem _ (List.mem_append_left _ (List.mem_append_left _ (List.mem_append_left _ (List.mem_append_left _ (List.mem_append_left _ (List.mem_append_left _ (List.mem_append_left _ (List.mem_of_getElem? (i := 1) rfl)))))))))
  have q4 : (Cond.fieldLink RX5 18 "RollupStore" "retention" "[I").before _ s = true := hts _ (List.mem_cons_of_mem _ (List.mem_append_left _ (List.mem_append_left _ (List.mem_append_left _ (List.mem_append_left _ (List.mem_append_left _ (List.mem_append_left _ (List.mem_append_left _ (List.mem_of_getElem? (i := 2) rfl)))))))))
  have q5 : (Cond.methodLink RX5 157 Lib.Math.max.name).before _ s = true := hts _ (List.mem_cons_of_mem _ (List.mem_append_left _ (List.mem_append_left _ (List.mem_append_left _ (List.mem_append_left _ (List.mem_append_left _ (List.mem_append_left _ (List.mem_append_left _ (List.mem_of_getElem? (i := 3) rfl)))))))))
  have q6 : (Cond.static Lib.Math.max.name).before _ s = true := hts _ (List.mem_cons_of_mem _ (List.mem_append_left _ (List.mem_append_left _ (List.mem_append_left _ (List.mem_append_left _ (List.mem_append_left _ (List.mem_append_left _ (List.mem_append_left _ (List.mem_of_getElem? (i := 4) rfl)))))))))
  have q7 : (Cond.initialized "java/lang/Math").before _ s = true := hts _ (List.mem_cons_of_mem _ (List.mem_append_left _ (List.mem_append_left _ (List.mem_append_left _ (List.mem_append_left _ (List.mem_append_left _ (List.mem_append_left _ (List.mem_append_left _ (List.mem_of_getElem? (i := 5) rfl)))))))))
  have q8 : (Cond.code Lib.Math.max.name Lib.Math.max.code 2 (some .int)).before _ s = true := hts _ (List.mem_cons_of_mem _ (List.mem_append_left _ (List.mem_append_left _ (List.mem_append_left _ (List.mem_append_left _ (List.mem_append_left _ (List.mem_append_left _ (List.mem_append_left _ (List.mem_of_getElem? (i := 6) rfl)))))))))
  refine lv_aload_n hx hb dX5_moveHorizon_0 rfl (lv_at hl 0 rfl) ?_
  obtain ⟨g1, h⟩ := h
  obtain ⟨b2, eb2, h⟩ := h
  refine xr_getR (ci := 5) (C := RX5) (T := TX5) (N := 7) hx hb hL5 hown hK hh g1 (by decide) rfl 4 104 rfl rfl (by decide) (by decide) q2 (fun _ h9 => h9) eb2 dX5_moveHorizon_1 ?_
  refine lv_iload_n hx hb dX5_moveHorizon_4 rfl (lv_at hl 1 rfl) ?_
  refine lv_aload_n hx hb dX5_moveHorizon_5 rfl (lv_at hl 0 rfl) ?_
  obtain ⟨g3, h⟩ := h
  obtain ⟨b4, eb4, h⟩ := h
  refine xr_getR (ci := 5) (C := RX5) (T := TX5) (N := 7) hx hb hL5 hown hK hh g3 (by decide) rfl 4 104 rfl rfl (by decide) (by decide) q2 (fun _ h9 => h9) eb4 dX5_moveHorizon_6 ?_
  refine lv_iload_n hx hb dX5_moveHorizon_9 rfl (lv_at hl 1 rfl) ?_
  obtain ⟨g5, h⟩ := h
  obtain ⟨g6, h⟩ := h
  refine xr_iald hx hb hK hh g5 g6 dX5_moveHorizon_10 ?_
  refine lv_aload_n hx hb dX5_moveHorizon_11 rfl (lv_at hl 0 rfl) ?_
  obtain ⟨g7, h⟩ := h
  refine xr_getI (ci := 5) (C := RX5) (T := TX5) (N := 7) hx hb hL5 hown hK hh g7 (by decide) rfl 2 102 rfl rfl (by decide) (by decide) q3 (fun _ h9 => h9) dX5_moveHorizon_12 ?_
  refine lv_aload_n hx hb dX5_moveHorizon_15 rfl (lv_at hl 0 rfl) ?_
  obtain ⟨g8, h⟩ := h
  obtain ⟨b9, eb9, h⟩ := h
  refine xr_getR (ci := 5) (C := RX5) (T := TX5) (N := 7) hx hb hL5 hown hK hh g8 (by decide) rfl 3 103 rfl rfl (by decide) (by decide) q4 (fun _ h9 => h9) eb9 dX5_moveHorizon_16 ?_
  refine lv_iload_n hx hb dX5_moveHorizon_19 rfl (lv_at hl 1 rfl) ?_
  obtain ⟨g10, h⟩ := h
  obtain ⟨g11, h⟩ := h
  refine xr_iald hx hb hK hh g10 g11 dX5_moveHorizon_20 ?_
  refine lv_isub hx hb dX5_moveHorizon_21 ?_
  refine va_mmax hx hb (hml.trans hl.1.symm) hown q5 q6 q7 q8 (Nat.le_of_ble_eq_true rfl) (Nat.le_of_ble_eq_true rfl) (Nat.le_of_ble_eq_true rfl) (Nat.le_of_ble_eq_true rfl) dX5_moveHorizon_22 ?_
  obtain ⟨g12, h⟩ := h
  obtain ⟨g13, h⟩ := h
  refine xr_iast hx hb hK hh g12 hS g13 dX5_moveHorizon_25 (fun H locs hh hS => ?_)
  obtain ⟨m14, em14⟩ : ∃ z : MM, z = sAI m0 b2 (va_up (mAI m0 b2) p1.toNatClampNeg (if (mAI m0 b4 p1.toNatClampNeg) < ((mI m0 102 a0) - (mAI m0 b9 p1.toNatClampNeg)) then ((mI m0 102 a0) - (mAI m0 b9 p1.toNatClampNeg)) else (mAI m0 b4 p1.toNatClampNeg))) := ⟨_, rfl⟩
  rw [← em14] at hh
  replace h := h m14 em14
  refine lv_iconst (v := 0) hx hb dX5_moveHorizon_26 (by decide) ?_
  refine lv_topi (fun x15 ex15 => ?_)
  replace h := h x15 ex15
  refine lv_istore_n (lv' := [(2, .int x15), (0, .ref a0), (1, .int p1)]) hx hb dX5_moveHorizon_27 rfl hl (by decide) rfl (fun ls hl => ?_)
  refine lv_iconst (v := 0) hx hb dX5_moveHorizon_28 (by decide) ?_
  refine lv_topi (fun x16 ex16 => ?_)
  replace h := h x16 ex16
  refine lv_istore_n (lv' := [(3, .int x16), (2, .int x15), (0, .ref a0), (1, .int p1)]) hx hb dX5_moveHorizon_29 rfl hl (by decide) rfl (fun ls hl => ?_)
  obtain ⟨n9, h⟩ := h
  exact bkq_X5_moveHorizon_30 C0  n9 _ _ _ _ _ _ _ _ h hh hS (lv_sub hl [2, 3, 1, 0] rfl)

set_option maxHeartbeats 4000000 in
set_option maxRecDepth 100000 in
theorem bk_X5_advance_26 {p : Program} {l : Launch} {e : Env} {s : State} {m : MethodId} {args : Array Value} {below : List Frame} {meth : Method} {c : Code} {G : GG} {base : Nat} (C0 : BC p s m args meth c G base RX5 cX5_advance 4 (some .int) wsX5_advance) (hl9 : l.stackTraces = false) (hout : ∀ x ∈ c.exceptionTable.toList, False) {Q : Int32 → MM → Prop} {X : Nat → MM → Prop} : ∀ (n : Nat) (l0 : Nat) (l2 : Int32) (l3 : Int32) (m0 : MM) (H : Heap) (locs : List Loc) (ls : Array Slot), wp_X5_advance_26 Q X n l0 l2 l3 m0 → hp G (xA base) m0 H → va_S (xA base) s.heap H locs → lv_has ls 4 [(0, .ref l0), (2, .int l2), (3, .int l3)] → W p l e ({ frames := 8, cells := 1, slots := 6, locals := 159 } : Room) s m args below meth c H locs 1 6 (vx_MQ below (va_Qi Q (HB G base) (xA base)) (xX G base X) args s 1 6 (xA base)) (F0 m 26 ls []) := by
  obtain ⟨hx, hb, hr, hml, hown, hts, hlocks, hK, hbase, hX⟩ := id C0
  intro n
  induction n with
  | zero =>
    intro l0 l2 l3 m0 H locs ls h
    unfold wp_X5_advance_26 at h
    exact h.elim
  | succ n ih =>
    intro l0 l2 l3 m0 H locs ls h hh hS hl
    unfold wp_X5_advance_26 at h
    refine lv_iload_n hx hb dX5_advance_26 rfl (lv_at hl 2 rfl) ?_
    refine lv_iconst (v := 3) hx hb dX5_advance_27 (by decide) ?_
    refine lv_icmp_gt (tgt := 45) hx hb dX5_advance_28 (by decide) (fun c8 => ?_) (fun c8 => ?_)
    · replace h := h.1 c8
      refine lv_iload_n hx hb dX5_advance_45 rfl (lv_at hl 1 rfl) ?_
      exact vx_ret (xe_i hx hb hr hlocks hbase hh hK hX hS h (Nat.le_of_ble_eq_true rfl) (Nat.le_of_ble_eq_true rfl) dX5_advance_46)
    · replace h := h.2 c8
      refine lv_iload_n hx hb dX5_advance_31 rfl (lv_at hl 1 rfl) ?_
      refine lv_aload_n hx hb dX5_advance_32 rfl (lv_at hl 0 rfl) ?_
      refine lv_iload_n hx hb dX5_advance_33 rfl (lv_at hl 2 rfl) ?_
      obtain ⟨g9, h⟩ := h
      refine xt_i (vx_runV (As := [.int l3]) (rest := [.int l2]) ⟨hx, hb, hml, hown, hts⟩ (mt_X5_moveHorizon l hl9 G base h) (cwV 1 hts gX5_advance_X5_moveHorizon rfl rfl rfl (by decide +kernel) ⟨Nat.le_of_ble_eq_true rfl, Nat.le_of_ble_eq_true rfl⟩) (xp_V hbase hh hK hX hS (ci := 5) g9 (by decide) rfl) rfl rfl hl.1 rfl (lv_room (Nat.le_of_ble_eq_true rfl)) dX5_advance_34 ⟨Nat.le_of_ble_eq_true rfl, Nat.le_of_ble_eq_true rfl⟩) hS (fun k9 m9 H locs q9 ce h hh hS hc9 hv9 hcl9 => xe_out hout hlocks hbase hh hK hX hS h hc9 hv9 hcl9 (Nat.le_of_ble_eq_true rfl) (Nat.le_of_ble_eq_true rfl)) (fun r10 m11 H locs h hh hS => ?_)
      refine lv_iadd hx hb dX5_advance_37 ?_
      refine lv_topi (fun x12 ex12 => ?_)
      replace h := h x12 ex12
      refine lv_istore_n (lv' := [(2, .int x12), (0, .ref l0), (3, .int l3)]) hx hb dX5_advance_38 rfl hl (by decide) rfl (fun ls hl => ?_)
      obtain ⟨x13, ex13⟩ : ∃ y : Int32, y = l3 + 1 := ⟨_, rfl⟩
      replace h := h x13 ex13
      refine lv_iinc (v := x13) (lv' := [(3, .int x13), (2, .int x12), (0, .ref l0)]) hx hb dX5_advance_39 hl (k := 2) rfl (by rw [ex13]; rfl) (by decide) rfl (fun ls hl => ?_)
      refine lv_goto (tgt := 26) hx hb dX5_advance_42 (by decide) ?_
      refine W.widen (k := 1) (n := 6) (Nat.le_of_ble_eq_true rfl) (Nat.le_of_ble_eq_true rfl) ?_
      exact ih _ _ _ _ _ _ _ h hh hS (lv_sub hl [2, 1, 0] rfl)

set_option maxHeartbeats 4000000 in
set_option maxRecDepth 100000 in
theorem mt_X5_advance (l : Launch) (hl9 : l.stackTraces = false) (G : GG) (base : Nat) {a0 : Nat} {p1 : Int32} {m0 : MM} {Q : Int32 → MM → Prop} {X : Nat → MM → Prop} (h : wp_X5_advance a0 p1 m0 Q X) : vx_Met l yX5_advance wsX5_advance ({ frames := 8, cells := 1, slots := 6, locals := 159 }) (va_Pc [.ref a0, .int p1] (SP G base m0)) (va_Qi Q (HB G base) (xA base)) (xX G base X) 1 6 (xA base) := by
  refine vx_ofW (cc := cX5_advance) (maxL := 4) (ret := (some .int)) (by decide) rfl ?_
  intro p e s m args below meth c s₁ B hml hout hv
  obtain ⟨rfl, hbase, hh, hK, hX⟩ := hv
  have C0 : BC p s m _ meth c G base RX5 cX5_advance 4 (some .int) wsX5_advance := ⟨B.exec, B.bytes, B.returns, hml, findClass_of_methodNamed B.named, atoms_spec (ws := wsX5_advance) B.pre, B.notSynchronized, hK, hbase, hX⟩
  obtain ⟨hx, hb, hr, -, hown, hts, hlocks, -, -, -⟩ := id C0
  have hS : va_S (xA base) s.heap s.heap [] := va_S.rf
  have hl := lv_entry ([.ref a0, .int p1]) (n := 4) (Nat.le_of_ble_eq_true rfl)
  rw [lg_entry_eq]
  generalize (lg_sl ([.ref a0, .int p1]) ++ List.replicate (4 - (lg_sl ([.ref a0, .int p1])).length) Slot.unset).toArray = ls at hl ⊢
  have hl : lv_has ls 4 [(0, .ref a0), (1, .int p1)] := hl
  unfold wp_X5_advance at h
  have q1 : (Cond.constant RX5 104 (1000000)).before _ s = true := hts _ (List.mem_cons_of_mem _ (List.mem_append_left _ (List.mem_append_left _ (List.mem_append_left _ (List.mem_append_left _ (List.mem_append_left _ (List.mem_append_left _ (List.mem_append_left _ (List.mem_append_left _ (List.mem_of_getElem? (i := 0) rfl))))))))))
  have hL5 : ∀ w ∈ u_ws RX5 TX5 7, w.before _ s = true := fun w h9 => hts w (List.mem_cons_of_mem _ (List.mem_append_left _ (List.mem_append_left _ (List.mem_append_left _ (List.mem_append_left _ (List.mem_append_left _ (List.mem_append_left _ (List.mem_append_right _ (h9)))))))))
  have q3 : (Cond.fieldLink RX5 105 "RollupStore" "clock" "I").before _ s = true := hts _ (List.mem_cons_of_mem _ (List.mem_append_left _ (List.mem_append_left _ (List.mem_append_left _ (List.mem_append_left _ (List.mem_append_left _ (List.mem_append_left _ (List.mem_append_left _ (List.mem_append_left _ (List.mem_of_getElem? (i := 1) rfl))))))))))
  have q4 : (Cond.constant RX5 108 (2000000000)).before _ s = true := hts _ (List.mem_cons_of_mem _ (List.mem_append_left _ (List.mem_append_left _ (List.mem_append_left _ (List.mem_append_left _ (List.mem_append_left _ (List.mem_append_left _ (List.mem_append_left _ (List.mem_append_left _ (List.mem_of_getElem? (i := 2) rfl))))))))))
  have q5 : (Cond.methodLink RX5 109 Lib.Math.min.name).before _ s = true := hts _ (List.mem_cons_of_mem _ (List.mem_append_left _ (List.mem_append_left _ (List.mem_append_left _ (List.mem_append_left _ (List.mem_append_left _ (List.mem_append_left _ (List.mem_append_left _ (List.mem_append_left _ (List.mem_of_getElem? (i := 3) rfl))))))))))
  have q6 : (Cond.static Lib.Math.min.name).before _ s = true := hts _ (List.mem_cons_of_mem _ (List.mem_append_left _ (List.mem_append_left _ (List.mem_append_left _ (List.mem_append_left _ (List.mem_append_left _ (List.mem_append_left _ (List.mem_append_left _ (List.mem_append_left _ (List.mem_of_getElem? (i := 4) rfl))))))))))
  have q7 : (Cond.initialized "java/lang/Math").before _ s = true := hts _ (List.mem_cons_of_mem _ (List.mem_append_left _ (List.mem_append_left _ (List.mem_append_left _ (List.mem_append_left _ (List.mem_append_left _ (List.mem_append_left _ (List.mem_append_left _ (List.mem_append_left _ (List.mem_of_getElem? (i := 5) rfl))))))))))
  have q8 : (Cond.code Lib.Math.min.name Lib.Math.min.code 2 (some .int)).before _ s = true := hts _ (List.mem_cons_of_mem _ (List.mem_append_left _ (List.mem_append_left _ (List.mem_append_left _ (List.mem_append_left _ (List.mem_append_left _ (List.mem_append_left _ (List.mem_append_left _ (List.mem_append_left _ (List.mem_of_getElem? (i := 6) rfl))))))))))
  refine lv_iload_n hx hb dX5_advance_0 rfl (lv_at hl 1 rfl) ?_
  refine lv_iconst (v := 1) hx hb dX5_advance_1 (by decide) ?_
  refine lv_ldc hx hb hown q1 dX5_advance_2 ?_
  refine xt_v (vx_runS (As := [.int p1, .int (1 : Int32), .int (1000000 : Int32)]) (rest := []) ⟨hx, hb, hml, hown, hts⟩ (mt_X5_needRange l hl9 G base h) (va_cwS 3 hts gX5_advance_X5_needRange rfl rfl rfl (by decide +kernel) ⟨Nat.le_of_ble_eq_true rfl, Nat.le_of_ble_eq_true rfl⟩) (xp_S hbase hh hK hX hS) rfl rfl hl.1 rfl (lv_room (Nat.le_of_ble_eq_true rfl)) dX5_advance_4 ⟨Nat.le_of_ble_eq_true rfl, Nat.le_of_ble_eq_true rfl⟩) hS (fun k9 m9 H locs q9 ce h hh hS hc9 hv9 hcl9 => xe_out hout hlocks hbase hh hK hX hS h hc9 hv9 hcl9 (Nat.le_of_ble_eq_true rfl) (Nat.le_of_ble_eq_true rfl)) (fun m2 H locs h hh hS => ?_)
  refine lv_aload_n hx hb dX5_advance_7 rfl (lv_at hl 0 rfl) ?_
  refine lv_aload_n hx hb dX5_advance_8 rfl (lv_at hl 0 rfl) ?_
  obtain ⟨g3, h⟩ := h
  refine xr_getI (ci := 5) (C := RX5) (T := TX5) (N := 7) hx hb hL5 hown hK hh g3 (by decide) rfl 2 102 rfl rfl (by decide) (by decide) q3 (fun _ h9 => h9) dX5_advance_9 ?_
  refine lv_iload_n hx hb dX5_advance_12 rfl (lv_at hl 1 rfl) ?_
  refine lv_iadd hx hb dX5_advance_13 ?_
  refine lv_ldc hx hb hown q4 dX5_advance_14 ?_
  refine va_mmin hx hb (hml.trans hl.1.symm) hown q5 q6 q7 q8 (Nat.le_of_ble_eq_true rfl) (Nat.le_of_ble_eq_true rfl) (Nat.le_of_ble_eq_true rfl) (Nat.le_of_ble_eq_true rfl) dX5_advance_16 ?_
  obtain ⟨g4, h⟩ := h
  refine xr_putI (ci := 5) (C := RX5) (T := TX5) (N := 7) hx hb hL5 hown hK hh g4 (by decide) rfl 2 102 rfl rfl (by decide) (by decide) q3 (fun _ h9 => h9) tyX5 tyX5_ok nmX5 rfl rfl rfl hS dX5_advance_19 (fun H locs hh hS => ?_)
  obtain ⟨m5, em5⟩ : ∃ z : MM, z = sI m2 102 a0 (if (2000000000 : Int32) < ((mI m2 102 a0) + p1) then (2000000000 : Int32) else ((mI m2 102 a0) + p1)) := ⟨_, rfl⟩
  rw [← em5] at hh
  replace h := h m5 em5
  refine lv_iconst (v := 0) hx hb dX5_advance_22 (by decide) ?_
  refine lv_topi (fun x6 ex6 => ?_)
  replace h := h x6 ex6
  refine lv_istore_n (lv' := [(2, .int x6), (0, .ref a0), (1, .int p1)]) hx hb dX5_advance_23 rfl hl (by decide) rfl (fun ls hl => ?_)
  refine lv_iconst (v := 0) hx hb dX5_advance_24 (by decide) ?_
  refine lv_topi (fun x7 ex7 => ?_)
  replace h := h x7 ex7
  refine lv_istore_n (lv' := [(3, .int x7), (2, .int x6), (0, .ref a0), (1, .int p1)]) hx hb dX5_advance_25 rfl hl (by decide) rfl (fun ls hl => ?_)
  refine W.widen (k := 1) (n := 6) (Nat.le_of_ble_eq_true rfl) (Nat.le_of_ble_eq_true rfl) ?_
  obtain ⟨n9, h⟩ := h
  exact bk_X5_advance_26 C0 hl9 hout  n9 _ _ _ _ _ _ _ h hh hS (lv_sub hl [2, 1, 0] rfl)

set_option maxHeartbeats 4000000 in
set_option maxRecDepth 100000 in
theorem bkq_X5_advance_26 {p : Program} {l : Launch} {e : Env} {s : State} {m : MethodId} {args : Array Value} {below : List Frame} {meth : Method} {c : Code} {G : GG} {base : Nat} (C0 : BC p s m args meth c G base RX5 cX5_advance 4 (some .int) wsX5_advance) {Q : Int32 → MM → Prop} : ∀ (n : Nat) (l0 : Nat) (l2 : Int32) (l3 : Int32) (m0 : MM) (H : Heap) (locs : List Loc) (ls : Array Slot), wp_X5_advance_26 Q (fun _ _ => False) n l0 l2 l3 m0 → hp G (xA base) m0 H → va_S (xA base) s.heap H locs → lv_has ls 4 [(0, .ref l0), (2, .int l2), (3, .int l3)] → W p l e ({ frames := 8, cells := 0, slots := 0, locals := 159 } : Room) s m args below meth c H locs 0 0 (MQ below (va_Qi Q (HB G base) (xA base)) args s 0 0 (xA base)) (F0 m 26 ls []) := by
  obtain ⟨hx, hb, hr, hml, hown, hts, hlocks, hK, hbase, hX⟩ := id C0
  intro n
  induction n with
  | zero =>
    intro l0 l2 l3 m0 H locs ls h
    unfold wp_X5_advance_26 at h
    exact h.elim
  | succ n ih =>
    intro l0 l2 l3 m0 H locs ls h hh hS hl
    unfold wp_X5_advance_26 at h
    refine lv_iload_n hx hb dX5_advance_26 rfl (lv_at hl 2 rfl) ?_
    refine lv_iconst (v := 3) hx hb dX5_advance_27 (by decide) ?_
    refine lv_icmp_gt (tgt := 45) hx hb dX5_advance_28 (by decide) (fun c8 => ?_) (fun c8 => ?_)
    · replace h := h.1 c8
      refine lv_iload_n hx hb dX5_advance_45 rfl (lv_at hl 1 rfl) ?_
      exact (xe_i hx hb hr hlocks hbase hh hK hX hS h (Nat.le_of_ble_eq_true rfl) (Nat.le_of_ble_eq_true rfl) dX5_advance_46)
    · replace h := h.2 c8
      refine lv_iload_n hx hb dX5_advance_31 rfl (lv_at hl 1 rfl) ?_
      refine lv_aload_n hx hb dX5_advance_32 rfl (lv_at hl 0 rfl) ?_
      refine lv_iload_n hx hb dX5_advance_33 rfl (lv_at hl 2 rfl) ?_
      obtain ⟨g9, h⟩ := h
      refine xc_i (va_runV (As := [.int l3]) (rest := [.int l2]) ⟨hx, hb, hml, hown, hts⟩ (mtq_X5_moveHorizon l G base h) (cwV 1 hts gX5_advance_X5_moveHorizon rfl rfl rfl (by decide +kernel) ⟨Nat.le_of_ble_eq_true rfl, Nat.le_of_ble_eq_true rfl⟩) (xp_V hbase hh hK hX hS (ci := 5) g9 (by decide) rfl) rfl rfl hl.1 rfl (lv_room (Nat.le_of_ble_eq_true rfl)) dX5_advance_34 ⟨Nat.le_of_ble_eq_true rfl, Nat.le_of_ble_eq_true rfl⟩) hS (fun r10 m11 H locs h hh hS => ?_)
      refine lv_iadd hx hb dX5_advance_37 ?_
      refine lv_topi (fun x12 ex12 => ?_)
      replace h := h x12 ex12
      refine lv_istore_n (lv' := [(2, .int x12), (0, .ref l0), (3, .int l3)]) hx hb dX5_advance_38 rfl hl (by decide) rfl (fun ls hl => ?_)
      obtain ⟨x13, ex13⟩ : ∃ y : Int32, y = l3 + 1 := ⟨_, rfl⟩
      replace h := h x13 ex13
      refine lv_iinc (v := x13) (lv' := [(3, .int x13), (2, .int x12), (0, .ref l0)]) hx hb dX5_advance_39 hl (k := 2) rfl (by rw [ex13]; rfl) (by decide) rfl (fun ls hl => ?_)
      refine lv_goto (tgt := 26) hx hb dX5_advance_42 (by decide) ?_
      exact ih _ _ _ _ _ _ _ h hh hS (lv_sub hl [2, 1, 0] rfl)

set_option maxHeartbeats 4000000 in
set_option maxRecDepth 100000 in
theorem mtq_X5_advance (l : Launch) (G : GG) (base : Nat) {a0 : Nat} {p1 : Int32} {m0 : MM} {Q : Int32 → MM → Prop} (h : wp_X5_advance a0 p1 m0 Q (fun _ _ => False)) : Met l yX5_advance wsX5_advance ({ frames := 8, cells := 0, slots := 0, locals := 159 }) (va_Pc [.ref a0, .int p1] (SP G base m0)) (va_Qi Q (HB G base) (xA base)) 0 0 (xA base) := by
  refine Met.ofW (cc := cX5_advance) (maxL := 4) (ret := (some .int)) (by decide) rfl ?_
  intro p e s m args below meth c s₁ B hml hv
  obtain ⟨rfl, hbase, hh, hK, hX⟩ := hv
  have C0 : BC p s m _ meth c G base RX5 cX5_advance 4 (some .int) wsX5_advance := ⟨B.exec, B.bytes, B.returns, hml, findClass_of_methodNamed B.named, atoms_spec (ws := wsX5_advance) B.pre, B.notSynchronized, hK, hbase, hX⟩
  obtain ⟨hx, hb, hr, -, hown, hts, hlocks, -, -, -⟩ := id C0
  have hS : va_S (xA base) s.heap s.heap [] := va_S.rf
  have hl := lv_entry ([.ref a0, .int p1]) (n := 4) (Nat.le_of_ble_eq_true rfl)
  rw [lg_entry_eq]
  generalize (lg_sl ([.ref a0, .int p1]) ++ List.replicate (4 - (lg_sl ([.ref a0, .int p1])).length) Slot.unset).toArray = ls at hl ⊢
  have hl : lv_has ls 4 [(0, .ref a0), (1, .int p1)] := hl
  unfold wp_X5_advance at h
  have q1 : (Cond.constant RX5 104 (1000000)).before _ s = true := hts _ (List.mem_cons_of_mem _ (List.mem_append_left _ (List.mem_append_left _ (List.mem_append_left _ (List.mem_append_left _ (List.mem_append_left _ (List.mem_append_left _ (List.mem_append_left _ (List.mem_append_left _ (List.mem_of_getElem? (i := 0) rfl))))))))))
  have hL5 : ∀ w ∈ u_ws RX5 TX5 7, w.before _ s = true := fun w h9 => hts w (List.mem_cons_of_mem _ (List.mem_append_left _ (List.mem_append_left _ (List.mem_append_left _ (List.mem_append_left _ (List.mem_append_left _ (List.mem_append_left _ (List.mem_append_right _ (h9)))))))))
  have q3 : (Cond.fieldLink RX5 105 "RollupStore" "clock" "I").before _ s = true := hts _ (List.mem_cons_of_mem _ (List.mem_append_left _ (List.mem_append_left _ (List.mem_append_left _ (List.mem_append_left _ (List.mem_append_left _ (List.mem_append_left _ (List.mem_append_left _ (List.mem_append_left _ (List.mem_of_getElem? (i := 1) rfl))))))))))
  have q4 : (Cond.constant RX5 108 (2000000000)).before _ s = true := hts _ (List.mem_cons_of_mem _ (List.mem_append_left _ (List.mem_append_left _ (List.mem_append_left _ (List.mem_append_left _ (List.mem_append_left _ (List.mem_append_left _ (List.mem_append_left _ (List.mem_append_left _ (List.mem_of_getElem? (i := 2) rfl))))))))))
  have q5 : (Cond.methodLink RX5 109 Lib.Math.min.name).before _ s = true := hts _ (List.mem_cons_of_mem _ (List.mem_append_left _ (List.mem_append_left _ (List.mem_append_left _ (List.mem_append_left _ (List.mem_append_left _ (List.mem_append_left _ (List.mem_append_left _ (List.mem_append_left _ (List.mem_of_getElem? (i := 3) rfl))))))))))
  have q6 : (Cond.static Lib.Math.min.name).before _ s = true := hts _ (List.mem_cons_of_mem _ (List.mem_append_left _ (List.mem_append_left _ (List.mem_append_left _ (List.mem_append_left _ (List.mem_append_left _ (List.mem_append_left _ (List.mem_append_left _ (List.mem_append_left _ (List.mem_of_getElem? (i := 4) rfl))))))))))
  have q7 : (Cond.initialized "java/lang/Math").before _ s = true := hts _ (List.mem_cons_of_mem _ (List.mem_append_left _ (List.mem_append_left _ (List.mem_append_left _ (List.mem_append_left _ (List.mem_append_left _ (List.mem_append_left _ (List.mem_append_left _ (List.mem_append_left _ (List.mem_of_getElem? (i := 5) rfl))))))))))
  have q8 : (Cond.code Lib.Math.min.name Lib.Math.min.code 2 (some .int)).before _ s = true := hts _ (List.mem_cons_of_mem _ (List.mem_append_left _ (List.mem_append_left _ (List.mem_append_left _ (List.mem_append_left _ (List.mem_append_left _ (List.mem_append_left _ (List.mem_append_left _ (List.mem_append_left _ (List.mem_of_getElem? (i := 6) rfl))))))))))
  refine lv_iload_n hx hb dX5_advance_0 rfl (lv_at hl 1 rfl) ?_
  refine lv_iconst (v := 1) hx hb dX5_advance_1 (by decide) ?_
  refine lv_ldc hx hb hown q1 dX5_advance_2 ?_
  refine xc_v (va_runS (As := [.int p1, .int (1 : Int32), .int (1000000 : Int32)]) (rest := []) ⟨hx, hb, hml, hown, hts⟩ (mtq_X5_needRange l G base h) (va_cwS 3 hts gX5_advance_X5_needRange rfl rfl rfl (by decide +kernel) ⟨Nat.le_of_ble_eq_true rfl, Nat.le_of_ble_eq_true rfl⟩) (xp_S hbase hh hK hX hS) rfl rfl hl.1 rfl (lv_room (Nat.le_of_ble_eq_true rfl)) dX5_advance_4 ⟨Nat.le_of_ble_eq_true rfl, Nat.le_of_ble_eq_true rfl⟩) hS (fun m2 H locs h hh hS => ?_)
  refine lv_aload_n hx hb dX5_advance_7 rfl (lv_at hl 0 rfl) ?_
  refine lv_aload_n hx hb dX5_advance_8 rfl (lv_at hl 0 rfl) ?_
  obtain ⟨g3, h⟩ := h
  refine xr_getI (ci := 5) (C := RX5) (T := TX5) (N := 7) hx hb hL5 hown hK hh g3 (by decide) rfl 2 102 rfl rfl (by decide) (by decide) q3 (fun _ h9 => h9) dX5_advance_9 ?_
  refine lv_iload_n hx hb dX5_advance_12 rfl (lv_at hl 1 rfl) ?_
  refine lv_iadd hx hb dX5_advance_13 ?_
  refine lv_ldc hx hb hown q4 dX5_advance_14 ?_
  refine va_mmin hx hb (hml.trans hl.1.symm) hown q5 q6 q7 q8 (Nat.le_of_ble_eq_true rfl) (Nat.le_of_ble_eq_true rfl) (Nat.le_of_ble_eq_true rfl) (Nat.le_of_ble_eq_true rfl) dX5_advance_16 ?_
  obtain ⟨g4, h⟩ := h
  refine xr_putI (ci := 5) (C := RX5) (T := TX5) (N := 7) hx hb hL5 hown hK hh g4 (by decide) rfl 2 102 rfl rfl (by decide) (by decide) q3 (fun _ h9 => h9) tyX5 tyX5_ok nmX5 rfl rfl rfl hS dX5_advance_19 (fun H locs hh hS => ?_)
  obtain ⟨m5, em5⟩ : ∃ z : MM, z = sI m2 102 a0 (if (2000000000 : Int32) < ((mI m2 102 a0) + p1) then (2000000000 : Int32) else ((mI m2 102 a0) + p1)) := ⟨_, rfl⟩
  rw [← em5] at hh
  replace h := h m5 em5
  refine lv_iconst (v := 0) hx hb dX5_advance_22 (by decide) ?_
  refine lv_topi (fun x6 ex6 => ?_)
  replace h := h x6 ex6
  refine lv_istore_n (lv' := [(2, .int x6), (0, .ref a0), (1, .int p1)]) hx hb dX5_advance_23 rfl hl (by decide) rfl (fun ls hl => ?_)
  refine lv_iconst (v := 0) hx hb dX5_advance_24 (by decide) ?_
  refine lv_topi (fun x7 ex7 => ?_)
  replace h := h x7 ex7
  refine lv_istore_n (lv' := [(3, .int x7), (2, .int x6), (0, .ref a0), (1, .int p1)]) hx hb dX5_advance_25 rfl hl (by decide) rfl (fun ls hl => ?_)
  obtain ⟨n9, h⟩ := h
  exact bkq_X5_advance_26 C0  n9 _ _ _ _ _ _ _ h hh hS (lv_sub hl [2, 1, 0] rfl)

set_option maxHeartbeats 4000000 in
set_option maxRecDepth 100000 in
theorem mt_X5_count (l : Launch) (hl9 : l.stackTraces = false) (G : GG) (base : Nat) {a0 : Nat} {p1 : Int32} {p2 : Int32} {p3 : Int32} {m0 : MM} {Q : Int32 → MM → Prop} {X : Nat → MM → Prop} (h : wp_X5_count a0 p1 p2 p3 m0 Q X) : vx_Met l yX5_count wsX5_count ({ frames := 10, cells := 4, slots := 24, locals := 189 }) (va_Pc [.ref a0, .int p1, .int p2, .int p3] (SP G base m0)) (va_Qi Q (HB G base) (xA base)) (xX G base X) 4 24 (xA base) := by
  refine vx_ofW (cc := cX5_count) (maxL := 4) (ret := (some .int)) (by decide) rfl ?_
  intro p e s m args below meth c s₁ B hml hout hv
  obtain ⟨rfl, hbase, hh, hK, hX⟩ := hv
  have C0 : BC p s m _ meth c G base RX5 cX5_count 4 (some .int) wsX5_count := ⟨B.exec, B.bytes, B.returns, hml, findClass_of_methodNamed B.named, atoms_spec (ws := wsX5_count) B.pre, B.notSynchronized, hK, hbase, hX⟩
  obtain ⟨hx, hb, hr, -, hown, hts, hlocks, -, -, -⟩ := id C0
  have hS : va_S (xA base) s.heap s.heap [] := va_S.rf
  have hl := lv_entry ([.ref a0, .int p1, .int p2, .int p3]) (n := 4) (Nat.le_of_ble_eq_true rfl)
  rw [lg_entry_eq]
  generalize (lg_sl ([.ref a0, .int p1, .int p2, .int p3]) ++ List.replicate (4 - (lg_sl ([.ref a0, .int p1, .int p2, .int p3])).length) Slot.unset).toArray = ls at hl ⊢
  have hl : lv_has ls 4 [(0, .ref a0), (1, .int p1), (2, .int p2), (3, .int p3)] := hl
  unfold wp_X5_count at h
  have hL1 : ∀ w ∈ u_ws RX1 TX1 8, w.before _ s = true := fun w h9 => hts w (List.mem_cons_of_mem _ (List.mem_append_left _ (List.mem_append_left _ (List.mem_append_left _ (List.mem_append_left _ (List.mem_append_left _ (List.mem_append_left _ (List.mem_append_right _ (h9)))))))))
  have q2 : (Cond.fieldLink RX5 150 "RollupStore$Rollup" "count" "I").before _ s = true := hts _ (List.mem_cons_of_mem _ (List.mem_append_left _ (List.mem_append_left _ (List.mem_append_left _ (List.mem_append_left _ (List.mem_append_left _ (List.mem_append_left _ (List.mem_append_left _ (List.mem_append_left _ (List.mem_of_getElem? (i := 0) rfl))))))))))
  refine lv_aload_n hx hb dX5_count_0 rfl (lv_at hl 0 rfl) ?_
  refine lv_iload_n hx hb dX5_count_1 rfl (lv_at hl 1 rfl) ?_
  refine lv_iload_n hx hb dX5_count_2 rfl (lv_at hl 2 rfl) ?_
  refine lv_iload_n hx hb dX5_count_3 rfl (lv_at hl 3 rfl) ?_
  obtain ⟨g1, h⟩ := h
  refine xt_q (vx_runV (As := [.int p1, .int p2, .int p3]) (rest := []) ⟨hx, hb, hml, hown, hts⟩ (mt_X5_rollupAt l hl9 G base h) (cwV 3 hts gX5_count_X5_rollupAt rfl rfl rfl (by decide +kernel) ⟨Nat.le_of_ble_eq_true rfl, Nat.le_of_ble_eq_true rfl⟩) (xp_V hbase hh hK hX hS (ci := 5) g1 (by decide) rfl) rfl rfl hl.1 rfl (lv_room (Nat.le_of_ble_eq_true rfl)) dX5_count_4 ⟨Nat.le_of_ble_eq_true rfl, Nat.le_of_ble_eq_true rfl⟩) hS (fun k9 m9 H locs q9 ce h hh hS hc9 hv9 hcl9 => xe_out hout hlocks hbase hh hK hX hS h hc9 hv9 hcl9 (Nat.le_of_ble_eq_true rfl) (Nat.le_of_ble_eq_true rfl)) (fun r2 m3 H locs h hh hS => ?_)
  obtain ⟨b4, eb4, h⟩ := h
  rw [eb4]
  refine W.eq (g2 := F0 m 7 ls [.ref b4]) rfl ?_
  obtain ⟨g5, h⟩ := h
  refine xr_getI (ci := 1) (C := RX1) (T := TX1) (N := 8) hx hb hL1 hown hK hh g5 (by decide) rfl 1 21 rfl rfl (by decide) (by decide) q2 (fun _ h9 => h9) dX5_count_7 ?_
  exact vx_ret (xe_i hx hb hr hlocks hbase hh hK hX hS h (Nat.le_of_ble_eq_true rfl) (Nat.le_of_ble_eq_true rfl) dX5_count_10)

set_option maxHeartbeats 4000000 in
set_option maxRecDepth 100000 in
theorem mtq_X5_count (l : Launch) (G : GG) (base : Nat) {a0 : Nat} {p1 : Int32} {p2 : Int32} {p3 : Int32} {m0 : MM} {Q : Int32 → MM → Prop} (h : wp_X5_count a0 p1 p2 p3 m0 Q (fun _ _ => False)) : Met l yX5_count wsX5_count ({ frames := 10, cells := 0, slots := 0, locals := 189 }) (va_Pc [.ref a0, .int p1, .int p2, .int p3] (SP G base m0)) (va_Qi Q (HB G base) (xA base)) 0 0 (xA base) := by
  refine Met.ofW (cc := cX5_count) (maxL := 4) (ret := (some .int)) (by decide) rfl ?_
  intro p e s m args below meth c s₁ B hml hv
  obtain ⟨rfl, hbase, hh, hK, hX⟩ := hv
  have C0 : BC p s m _ meth c G base RX5 cX5_count 4 (some .int) wsX5_count := ⟨B.exec, B.bytes, B.returns, hml, findClass_of_methodNamed B.named, atoms_spec (ws := wsX5_count) B.pre, B.notSynchronized, hK, hbase, hX⟩
  obtain ⟨hx, hb, hr, -, hown, hts, hlocks, -, -, -⟩ := id C0
  have hS : va_S (xA base) s.heap s.heap [] := va_S.rf
  have hl := lv_entry ([.ref a0, .int p1, .int p2, .int p3]) (n := 4) (Nat.le_of_ble_eq_true rfl)
  rw [lg_entry_eq]
  generalize (lg_sl ([.ref a0, .int p1, .int p2, .int p3]) ++ List.replicate (4 - (lg_sl ([.ref a0, .int p1, .int p2, .int p3])).length) Slot.unset).toArray = ls at hl ⊢
  have hl : lv_has ls 4 [(0, .ref a0), (1, .int p1), (2, .int p2), (3, .int p3)] := hl
  unfold wp_X5_count at h
  have hL1 : ∀ w ∈ u_ws RX1 TX1 8, w.before _ s = true := fun w h9 => hts w (List.mem_cons_of_mem _ (List.mem_append_left _ (List.mem_append_left _ (List.mem_append_left _ (List.mem_append_left _ (List.mem_append_left _ (List.mem_append_left _ (List.mem_append_right _ (h9)))))))))
  have q2 : (Cond.fieldLink RX5 150 "RollupStore$Rollup" "count" "I").before _ s = true := hts _ (List.mem_cons_of_mem _ (List.mem_append_left _ (List.mem_append_left _ (List.mem_append_left _ (List.mem_append_left _ (List.mem_append_left _ (List.mem_append_left _ (List.mem_append_left _ (List.mem_append_left _ (List.mem_of_getElem? (i := 0) rfl))))))))))
  refine lv_aload_n hx hb dX5_count_0 rfl (lv_at hl 0 rfl) ?_
  refine lv_iload_n hx hb dX5_count_1 rfl (lv_at hl 1 rfl) ?_
  refine lv_iload_n hx hb dX5_count_2 rfl (lv_at hl 2 rfl) ?_
  refine lv_iload_n hx hb dX5_count_3 rfl (lv_at hl 3 rfl) ?_
  obtain ⟨g1, h⟩ := h
  refine xc_q (va_runV (As := [.int p1, .int p2, .int p3]) (rest := []) ⟨hx, hb, hml, hown, hts⟩ (mtq_X5_rollupAt l G base h) (cwV 3 hts gX5_count_X5_rollupAt rfl rfl rfl (by decide +kernel) ⟨Nat.le_of_ble_eq_true rfl, Nat.le_of_ble_eq_true rfl⟩) (xp_V hbase hh hK hX hS (ci := 5) g1 (by decide) rfl) rfl rfl hl.1 rfl (lv_room (Nat.le_of_ble_eq_true rfl)) dX5_count_4 ⟨Nat.le_of_ble_eq_true rfl, Nat.le_of_ble_eq_true rfl⟩) hS (fun r2 m3 H locs h hh hS => ?_)
  obtain ⟨b4, eb4, h⟩ := h
  rw [eb4]
  refine W.eq (g2 := F0 m 7 ls [.ref b4]) rfl ?_
  obtain ⟨g5, h⟩ := h
  refine xr_getI (ci := 1) (C := RX1) (T := TX1) (N := 8) hx hb hL1 hown hK hh g5 (by decide) rfl 1 21 rfl rfl (by decide) (by decide) q2 (fun _ h9 => h9) dX5_count_7 ?_
  exact (xe_i hx hb hr hlocks hbase hh hK hX hS h (Nat.le_of_ble_eq_true rfl) (Nat.le_of_ble_eq_true rfl) dX5_count_10)

set_option maxHeartbeats 4000000 in
set_option maxRecDepth 100000 in
theorem mt_X5_sum (l : Launch) (hl9 : l.stackTraces = false) (G : GG) (base : Nat) {a0 : Nat} {p1 : Int32} {p2 : Int32} {p3 : Int32} {m0 : MM} {Q : Int64 → MM → Prop} {X : Nat → MM → Prop} (h : wp_X5_sum a0 p1 p2 p3 m0 Q X) : vx_Met l yX5_sum wsX5_sum ({ frames := 10, cells := 4, slots := 24, locals := 189 }) (va_Pc [.ref a0, .int p1, .int p2, .int p3] (SP G base m0)) (va_Ql Q (HB G base) (xA base)) (xX G base X) 4 24 (xA base) := by
  refine vx_ofW (cc := cX5_sum) (maxL := 4) (ret := (some .long)) (by decide) rfl ?_
  intro p e s m args below meth c s₁ B hml hout hv
  obtain ⟨rfl, hbase, hh, hK, hX⟩ := hv
  have C0 : BC p s m _ meth c G base RX5 cX5_sum 4 (some .long) wsX5_sum := ⟨B.exec, B.bytes, B.returns, hml, findClass_of_methodNamed B.named, atoms_spec (ws := wsX5_sum) B.pre, B.notSynchronized, hK, hbase, hX⟩
  obtain ⟨hx, hb, hr, -, hown, hts, hlocks, -, -, -⟩ := id C0
  have hS : va_S (xA base) s.heap s.heap [] := va_S.rf
  have hl := lv_entry ([.ref a0, .int p1, .int p2, .int p3]) (n := 4) (Nat.le_of_ble_eq_true rfl)
  rw [lg_entry_eq]
  generalize (lg_sl ([.ref a0, .int p1, .int p2, .int p3]) ++ List.replicate (4 - (lg_sl ([.ref a0, .int p1, .int p2, .int p3])).length) Slot.unset).toArray = ls at hl ⊢
  have hl : lv_has ls 4 [(0, .ref a0), (1, .int p1), (2, .int p2), (3, .int p3)] := hl
  unfold wp_X5_sum at h
  have hL1 : ∀ w ∈ u_ws RX1 TX1 8, w.before _ s = true := fun w h9 => hts w (List.mem_cons_of_mem _ (List.mem_append_left _ (List.mem_append_left _ (List.mem_append_left _ (List.mem_append_left _ (List.mem_append_left _ (List.mem_append_left _ (List.mem_append_right _ (h9)))))))))
  have q2 : (Cond.fieldLink RX5 153 "RollupStore$Rollup" "sum" "J").before _ s = true := hts _ (List.mem_cons_of_mem _ (List.mem_append_left _ (List.mem_append_left _ (List.mem_append_left _ (List.mem_append_left _ (List.mem_append_left _ (List.mem_append_left _ (List.mem_append_left _ (List.mem_append_left _ (List.mem_of_getElem? (i := 0) rfl))))))))))
  refine lv_aload_n hx hb dX5_sum_0 rfl (lv_at hl 0 rfl) ?_
  refine lv_iload_n hx hb dX5_sum_1 rfl (lv_at hl 1 rfl) ?_
  refine lv_iload_n hx hb dX5_sum_2 rfl (lv_at hl 2 rfl) ?_
  refine lv_iload_n hx hb dX5_sum_3 rfl (lv_at hl 3 rfl) ?_
  obtain ⟨g1, h⟩ := h
  refine xt_q (vx_runV (As := [.int p1, .int p2, .int p3]) (rest := []) ⟨hx, hb, hml, hown, hts⟩ (mt_X5_rollupAt l hl9 G base h) (cwV 3 hts gX5_sum_X5_rollupAt rfl rfl rfl (by decide +kernel) ⟨Nat.le_of_ble_eq_true rfl, Nat.le_of_ble_eq_true rfl⟩) (xp_V hbase hh hK hX hS (ci := 5) g1 (by decide) rfl) rfl rfl hl.1 rfl (lv_room (Nat.le_of_ble_eq_true rfl)) dX5_sum_4 ⟨Nat.le_of_ble_eq_true rfl, Nat.le_of_ble_eq_true rfl⟩) hS (fun k9 m9 H locs q9 ce h hh hS hc9 hv9 hcl9 => xe_out hout hlocks hbase hh hK hX hS h hc9 hv9 hcl9 (Nat.le_of_ble_eq_true rfl) (Nat.le_of_ble_eq_true rfl)) (fun r2 m3 H locs h hh hS => ?_)
  obtain ⟨b4, eb4, h⟩ := h
  rw [eb4]
  refine W.eq (g2 := F0 m 7 ls [.ref b4]) rfl ?_
  obtain ⟨g5, h⟩ := h
  refine xr_getJ (ci := 1) (C := RX1) (T := TX1) (N := 8) hx hb hL1 hown hK hh g5 (by decide) rfl 2 22 rfl rfl (by decide) (by decide) q2 (fun _ h9 => h9) dX5_sum_7 ?_
  exact vx_ret (xe_l hx hb hr hlocks hbase hh hK hX hS h (Nat.le_of_ble_eq_true rfl) (Nat.le_of_ble_eq_true rfl) dX5_sum_10)

set_option maxHeartbeats 4000000 in
set_option maxRecDepth 100000 in
theorem mtq_X5_sum (l : Launch) (G : GG) (base : Nat) {a0 : Nat} {p1 : Int32} {p2 : Int32} {p3 : Int32} {m0 : MM} {Q : Int64 → MM → Prop} (h : wp_X5_sum a0 p1 p2 p3 m0 Q (fun _ _ => False)) : Met l yX5_sum wsX5_sum ({ frames := 10, cells := 0, slots := 0, locals := 189 }) (va_Pc [.ref a0, .int p1, .int p2, .int p3] (SP G base m0)) (va_Ql Q (HB G base) (xA base)) 0 0 (xA base) := by
  refine Met.ofW (cc := cX5_sum) (maxL := 4) (ret := (some .long)) (by decide) rfl ?_
  intro p e s m args below meth c s₁ B hml hv
  obtain ⟨rfl, hbase, hh, hK, hX⟩ := hv
  have C0 : BC p s m _ meth c G base RX5 cX5_sum 4 (some .long) wsX5_sum := ⟨B.exec, B.bytes, B.returns, hml, findClass_of_methodNamed B.named, atoms_spec (ws := wsX5_sum) B.pre, B.notSynchronized, hK, hbase, hX⟩
  obtain ⟨hx, hb, hr, -, hown, hts, hlocks, -, -, -⟩ := id C0
  have hS : va_S (xA base) s.heap s.heap [] := va_S.rf
  have hl := lv_entry ([.ref a0, .int p1, .int p2, .int p3]) (n := 4) (Nat.le_of_ble_eq_true rfl)
  rw [lg_entry_eq]
  generalize (lg_sl ([.ref a0, .int p1, .int p2, .int p3]) ++ List.replicate (4 - (lg_sl ([.ref a0, .int p1, .int p2, .int p3])).length) Slot.unset).toArray = ls at hl ⊢
  have hl : lv_has ls 4 [(0, .ref a0), (1, .int p1), (2, .int p2), (3, .int p3)] := hl
  unfold wp_X5_sum at h
  have hL1 : ∀ w ∈ u_ws RX1 TX1 8, w.before _ s = true := fun w h9 => hts w (List.mem_cons_of_mem _ (List.mem_append_left _ (List.mem_append_left _ (List.mem_append_left _ (List.mem_append_left _ (List.mem_append_left _ (List.mem_append_left _ (List.mem_append_right _ (h9)))))))))
  have q2 : (Cond.fieldLink RX5 153 "RollupStore$Rollup" "sum" "J").before _ s = true := hts _ (List.mem_cons_of_mem _ (List.mem_append_left _ (List.mem_append_left _ (List.mem_append_left _ (List.mem_append_left _ (List.mem_append_left _ (List.mem_append_left _ (List.mem_append_left _ (List.mem_append_left _ (List.mem_of_getElem? (i := 0) rfl))))))))))
  refine lv_aload_n hx hb dX5_sum_0 rfl (lv_at hl 0 rfl) ?_
  refine lv_iload_n hx hb dX5_sum_1 rfl (lv_at hl 1 rfl) ?_
  refine lv_iload_n hx hb dX5_sum_2 rfl (lv_at hl 2 rfl) ?_
  refine lv_iload_n hx hb dX5_sum_3 rfl (lv_at hl 3 rfl) ?_
  obtain ⟨g1, h⟩ := h
  refine xc_q (va_runV (As := [.int p1, .int p2, .int p3]) (rest := []) ⟨hx, hb, hml, hown, hts⟩ (mtq_X5_rollupAt l G base h) (cwV 3 hts gX5_sum_X5_rollupAt rfl rfl rfl (by decide +kernel) ⟨Nat.le_of_ble_eq_true rfl, Nat.le_of_ble_eq_true rfl⟩) (xp_V hbase hh hK hX hS (ci := 5) g1 (by decide) rfl) rfl rfl hl.1 rfl (lv_room (Nat.le_of_ble_eq_true rfl)) dX5_sum_4 ⟨Nat.le_of_ble_eq_true rfl, Nat.le_of_ble_eq_true rfl⟩) hS (fun r2 m3 H locs h hh hS => ?_)
  obtain ⟨b4, eb4, h⟩ := h
  rw [eb4]
  refine W.eq (g2 := F0 m 7 ls [.ref b4]) rfl ?_
  obtain ⟨g5, h⟩ := h
  refine xr_getJ (ci := 1) (C := RX1) (T := TX1) (N := 8) hx hb hL1 hown hK hh g5 (by decide) rfl 2 22 rfl rfl (by decide) (by decide) q2 (fun _ h9 => h9) dX5_sum_7 ?_
  exact (xe_l hx hb hr hlocks hbase hh hK hX hS h (Nat.le_of_ble_eq_true rfl) (Nat.le_of_ble_eq_true rfl) dX5_sum_10)

set_option maxHeartbeats 4000000 in
set_option maxRecDepth 100000 in
theorem mt_X5_least (l : Launch) (hl9 : l.stackTraces = false) (G : GG) (base : Nat) {a0 : Nat} {p1 : Int32} {p2 : Int32} {p3 : Int32} {m0 : MM} {Q : Int32 → MM → Prop} {X : Nat → MM → Prop} (h : wp_X5_least a0 p1 p2 p3 m0 Q X) : vx_Met l yX5_least wsX5_least ({ frames := 10, cells := 4, slots := 24, locals := 189 }) (va_Pc [.ref a0, .int p1, .int p2, .int p3] (SP G base m0)) (va_Qi Q (HB G base) (xA base)) (xX G base X) 4 24 (xA base) := by
  refine vx_ofW (cc := cX5_least) (maxL := 4) (ret := (some .int)) (by decide) rfl ?_
  intro p e s m args below meth c s₁ B hml hout hv
  obtain ⟨rfl, hbase, hh, hK, hX⟩ := hv
  have C0 : BC p s m _ meth c G base RX5 cX5_least 4 (some .int) wsX5_least := ⟨B.exec, B.bytes, B.returns, hml, findClass_of_methodNamed B.named, atoms_spec (ws := wsX5_least) B.pre, B.notSynchronized, hK, hbase, hX⟩
  obtain ⟨hx, hb, hr, -, hown, hts, hlocks, -, -, -⟩ := id C0
  have hS : va_S (xA base) s.heap s.heap [] := va_S.rf
  have hl := lv_entry ([.ref a0, .int p1, .int p2, .int p3]) (n := 4) (Nat.le_of_ble_eq_true rfl)
  rw [lg_entry_eq]
  generalize (lg_sl ([.ref a0, .int p1, .int p2, .int p3]) ++ List.replicate (4 - (lg_sl ([.ref a0, .int p1, .int p2, .int p3])).length) Slot.unset).toArray = ls at hl ⊢
  have hl : lv_has ls 4 [(0, .ref a0), (1, .int p1), (2, .int p2), (3, .int p3)] := hl
  unfold wp_X5_least at h
  have hL1 : ∀ w ∈ u_ws RX1 TX1 8, w.before _ s = true := fun w h9 => hts w (List.mem_cons_of_mem _ (List.mem_append_left _ (List.mem_append_left _ (List.mem_append_left _ (List.mem_append_left _ (List.mem_append_left _ (List.mem_append_left _ (List.mem_append_right _ (h9)))))))))
  have q2 : (Cond.fieldLink RX5 160 "RollupStore$Rollup" "least" "I").before _ s = true := hts _ (List.mem_cons_of_mem _ (List.mem_append_left _ (List.mem_append_left _ (List.mem_append_left _ (List.mem_append_left _ (List.mem_append_left _ (List.mem_append_left _ (List.mem_append_left _ (List.mem_append_left _ (List.mem_of_getElem? (i := 0) rfl))))))))))
  refine lv_aload_n hx hb dX5_least_0 rfl (lv_at hl 0 rfl) ?_
  refine lv_iload_n hx hb dX5_least_1 rfl (lv_at hl 1 rfl) ?_
  refine lv_iload_n hx hb dX5_least_2 rfl (lv_at hl 2 rfl) ?_
  refine lv_iload_n hx hb dX5_least_3 rfl (lv_at hl 3 rfl) ?_
  obtain ⟨g1, h⟩ := h
  refine xt_q (vx_runV (As := [.int p1, .int p2, .int p3]) (rest := []) ⟨hx, hb, hml, hown, hts⟩ (mt_X5_rollupAt l hl9 G base h) (cwV 3 hts gX5_least_X5_rollupAt rfl rfl rfl (by decide +kernel) ⟨Nat.le_of_ble_eq_true rfl, Nat.le_of_ble_eq_true rfl⟩) (xp_V hbase hh hK hX hS (ci := 5) g1 (by decide) rfl) rfl rfl hl.1 rfl (lv_room (Nat.le_of_ble_eq_true rfl)) dX5_least_4 ⟨Nat.le_of_ble_eq_true rfl, Nat.le_of_ble_eq_true rfl⟩) hS (fun k9 m9 H locs q9 ce h hh hS hc9 hv9 hcl9 => xe_out hout hlocks hbase hh hK hX hS h hc9 hv9 hcl9 (Nat.le_of_ble_eq_true rfl) (Nat.le_of_ble_eq_true rfl)) (fun r2 m3 H locs h hh hS => ?_)
  obtain ⟨b4, eb4, h⟩ := h
  rw [eb4]
  refine W.eq (g2 := F0 m 7 ls [.ref b4]) rfl ?_
  obtain ⟨g5, h⟩ := h
  refine xr_getI (ci := 1) (C := RX1) (T := TX1) (N := 8) hx hb hL1 hown hK hh g5 (by decide) rfl 3 23 rfl rfl (by decide) (by decide) q2 (fun _ h9 => h9) dX5_least_7 ?_
  exact vx_ret (xe_i hx hb hr hlocks hbase hh hK hX hS h (Nat.le_of_ble_eq_true rfl) (Nat.le_of_ble_eq_true rfl) dX5_least_10)

set_option maxHeartbeats 4000000 in
set_option maxRecDepth 100000 in
theorem mtq_X5_least (l : Launch) (G : GG) (base : Nat) {a0 : Nat} {p1 : Int32} {p2 : Int32} {p3 : Int32} {m0 : MM} {Q : Int32 → MM → Prop} (h : wp_X5_least a0 p1 p2 p3 m0 Q (fun _ _ => False)) : Met l yX5_least wsX5_least ({ frames := 10, cells := 0, slots := 0, locals := 189 }) (va_Pc [.ref a0, .int p1, .int p2, .int p3] (SP G base m0)) (va_Qi Q (HB G base) (xA base)) 0 0 (xA base) := by
  refine Met.ofW (cc := cX5_least) (maxL := 4) (ret := (some .int)) (by decide) rfl ?_
  intro p e s m args below meth c s₁ B hml hv
  obtain ⟨rfl, hbase, hh, hK, hX⟩ := hv
  have C0 : BC p s m _ meth c G base RX5 cX5_least 4 (some .int) wsX5_least := ⟨B.exec, B.bytes, B.returns, hml, findClass_of_methodNamed B.named, atoms_spec (ws := wsX5_least) B.pre, B.notSynchronized, hK, hbase, hX⟩
  obtain ⟨hx, hb, hr, -, hown, hts, hlocks, -, -, -⟩ := id C0
  have hS : va_S (xA base) s.heap s.heap [] := va_S.rf
  have hl := lv_entry ([.ref a0, .int p1, .int p2, .int p3]) (n := 4) (Nat.le_of_ble_eq_true rfl)
  rw [lg_entry_eq]
  generalize (lg_sl ([.ref a0, .int p1, .int p2, .int p3]) ++ List.replicate (4 - (lg_sl ([.ref a0, .int p1, .int p2, .int p3])).length) Slot.unset).toArray = ls at hl ⊢
  have hl : lv_has ls 4 [(0, .ref a0), (1, .int p1), (2, .int p2), (3, .int p3)] := hl
  unfold wp_X5_least at h
  have hL1 : ∀ w ∈ u_ws RX1 TX1 8, w.before _ s = true := fun w h9 => hts w (List.mem_cons_of_mem _ (List.mem_append_left _ (List.mem_append_left _ (List.mem_append_left _ (List.mem_append_left _ (List.mem_append_left _ (List.mem_append_left _ (List.mem_append_right _ (h9)))))))))
  have q2 : (Cond.fieldLink RX5 160 "RollupStore$Rollup" "least" "I").before _ s = true := hts _ (List.mem_cons_of_mem _ (List.mem_append_left _ (List.mem_append_left _ (List.mem_append_left _ (List.mem_append_left _ (List.mem_append_left _ (List.mem_append_left _ (List.mem_append_left _ (List.mem_append_left _ (List.mem_of_getElem? (i := 0) rfl))))))))))
  refine lv_aload_n hx hb dX5_least_0 rfl (lv_at hl 0 rfl) ?_
  refine lv_iload_n hx hb dX5_least_1 rfl (lv_at hl 1 rfl) ?_
  refine lv_iload_n hx hb dX5_least_2 rfl (lv_at hl 2 rfl) ?_
  refine lv_iload_n hx hb dX5_least_3 rfl (lv_at hl 3 rfl) ?_
  obtain ⟨g1, h⟩ := h
  refine xc_q (va_runV (As := [.int p1, .int p2, .int p3]) (rest := []) ⟨hx, hb, hml, hown, hts⟩ (mtq_X5_rollupAt l G base h) (cwV 3 hts gX5_least_X5_rollupAt rfl rfl rfl (by decide +kernel) ⟨Nat.le_of_ble_eq_true rfl, Nat.le_of_ble_eq_true rfl⟩) (xp_V hbase hh hK hX hS (ci := 5) g1 (by decide) rfl) rfl rfl hl.1 rfl (lv_room (Nat.le_of_ble_eq_true rfl)) dX5_least_4 ⟨Nat.le_of_ble_eq_true rfl, Nat.le_of_ble_eq_true rfl⟩) hS (fun r2 m3 H locs h hh hS => ?_)
  obtain ⟨b4, eb4, h⟩ := h
  rw [eb4]
  refine W.eq (g2 := F0 m 7 ls [.ref b4]) rfl ?_
  obtain ⟨g5, h⟩ := h
  refine xr_getI (ci := 1) (C := RX1) (T := TX1) (N := 8) hx hb hL1 hown hK hh g5 (by decide) rfl 3 23 rfl rfl (by decide) (by decide) q2 (fun _ h9 => h9) dX5_least_7 ?_
  exact (xe_i hx hb hr hlocks hbase hh hK hX hS h (Nat.le_of_ble_eq_true rfl) (Nat.le_of_ble_eq_true rfl) dX5_least_10)

set_option maxHeartbeats 4000000 in
set_option maxRecDepth 100000 in
theorem mt_X5_greatest (l : Launch) (hl9 : l.stackTraces = false) (G : GG) (base : Nat) {a0 : Nat} {p1 : Int32} {p2 : Int32} {p3 : Int32} {m0 : MM} {Q : Int32 → MM → Prop} {X : Nat → MM → Prop} (h : wp_X5_greatest a0 p1 p2 p3 m0 Q X) : vx_Met l yX5_greatest wsX5_greatest ({ frames := 10, cells := 4, slots := 24, locals := 189 }) (va_Pc [.ref a0, .int p1, .int p2, .int p3] (SP G base m0)) (va_Qi Q (HB G base) (xA base)) (xX G base X) 4 24 (xA base) := by
  refine vx_ofW (cc := cX5_greatest) (maxL := 4) (ret := (some .int)) (by decide) rfl ?_
  intro p e s m args below meth c s₁ B hml hout hv
  obtain ⟨rfl, hbase, hh, hK, hX⟩ := hv
  have C0 : BC p s m _ meth c G base RX5 cX5_greatest 4 (some .int) wsX5_greatest := ⟨B.exec, B.bytes, B.returns, hml, findClass_of_methodNamed B.named, atoms_spec (ws := wsX5_greatest) B.pre, B.notSynchronized, hK, hbase, hX⟩
  obtain ⟨hx, hb, hr, -, hown, hts, hlocks, -, -, -⟩ := id C0
  have hS : va_S (xA base) s.heap s.heap [] := va_S.rf
  have hl := lv_entry ([.ref a0, .int p1, .int p2, .int p3]) (n := 4) (Nat.le_of_ble_eq_true rfl)
  rw [lg_entry_eq]
  generalize (lg_sl ([.ref a0, .int p1, .int p2, .int p3]) ++ List.replicate (4 - (lg_sl ([.ref a0, .int p1, .int p2, .int p3])).length) Slot.unset).toArray = ls at hl ⊢
  have hl : lv_has ls 4 [(0, .ref a0), (1, .int p1), (2, .int p2), (3, .int p3)] := hl
  unfold wp_X5_greatest at h
  have hL1 : ∀ w ∈ u_ws RX1 TX1 8, w.before _ s = true := fun w h9 => hts w (List.mem_cons_of_mem _ (List.mem_append_left _ (List.mem_append_left _ (List.mem_append_left _ (List.mem_append_left _ (List.mem_append_left _ (List.mem_append_left _ (List.mem_append_right _ (h9)))))))))
  have q2 : (Cond.fieldLink RX5 163 "RollupStore$Rollup" "greatest" "I").before _ s = true := hts _ (List.mem_cons_of_mem _ (List.mem_append_left _ (List.mem_append_left _ (List.mem_append_left _ (List.mem_append_left _ (List.mem_append_left _ (List.mem_append_left _ (List.mem_append_left _ (List.mem_append_left _ (List.mem_of_getElem? (i := 0) rfl))))))))))
  refine lv_aload_n hx hb dX5_greatest_0 rfl (lv_at hl 0 rfl) ?_
  refine lv_iload_n hx hb dX5_greatest_1 rfl (lv_at hl 1 rfl) ?_
  refine lv_iload_n hx hb dX5_greatest_2 rfl (lv_at hl 2 rfl) ?_
  refine lv_iload_n hx hb dX5_greatest_3 rfl (lv_at hl 3 rfl) ?_
  obtain ⟨g1, h⟩ := h
  refine xt_q (vx_runV (As := [.int p1, .int p2, .int p3]) (rest := []) ⟨hx, hb, hml, hown, hts⟩ (mt_X5_rollupAt l hl9 G base h) (cwV 3 hts gX5_greatest_X5_rollupAt rfl rfl rfl (by decide +kernel) ⟨Nat.le_of_ble_eq_true rfl, Nat.le_of_ble_eq_true rfl⟩) (xp_V hbase hh hK hX hS (ci := 5) g1 (by decide) rfl) rfl rfl hl.1 rfl (lv_room (Nat.le_of_ble_eq_true rfl)) dX5_greatest_4 ⟨Nat.le_of_ble_eq_true rfl, Nat.le_of_ble_eq_true rfl⟩) hS (fun k9 m9 H locs q9 ce h hh hS hc9 hv9 hcl9 => xe_out hout hlocks hbase hh hK hX hS h hc9 hv9 hcl9 (Nat.le_of_ble_eq_true rfl) (Nat.le_of_ble_eq_true rfl)) (fun r2 m3 H locs h hh hS => ?_)
  obtain ⟨b4, eb4, h⟩ := h
  rw [eb4]
  refine W.eq (g2 := F0 m 7 ls [.ref b4]) rfl ?_
  obtain ⟨g5, h⟩ := h
  refine xr_getI (ci := 1) (C := RX1) (T := TX1) (N := 8) hx hb hL1 hown hK hh g5 (by decide) rfl 4 24 rfl rfl (by decide) (by decide) q2 (fun _ h9 => h9) dX5_greatest_7 ?_
  exact vx_ret (xe_i hx hb hr hlocks hbase hh hK hX hS h (Nat.le_of_ble_eq_true rfl) (Nat.le_of_ble_eq_true rfl) dX5_greatest_10)

set_option maxHeartbeats 4000000 in
set_option maxRecDepth 100000 in
theorem mtq_X5_greatest (l : Launch) (G : GG) (base : Nat) {a0 : Nat} {p1 : Int32} {p2 : Int32} {p3 : Int32} {m0 : MM} {Q : Int32 → MM → Prop} (h : wp_X5_greatest a0 p1 p2 p3 m0 Q (fun _ _ => False)) : Met l yX5_greatest wsX5_greatest ({ frames := 10, cells := 0, slots := 0, locals := 189 }) (va_Pc [.ref a0, .int p1, .int p2, .int p3] (SP G base m0)) (va_Qi Q (HB G base) (xA base)) 0 0 (xA base) := by
  refine Met.ofW (cc := cX5_greatest) (maxL := 4) (ret := (some .int)) (by decide) rfl ?_
  intro p e s m args below meth c s₁ B hml hv
  obtain ⟨rfl, hbase, hh, hK, hX⟩ := hv
  have C0 : BC p s m _ meth c G base RX5 cX5_greatest 4 (some .int) wsX5_greatest := ⟨B.exec, B.bytes, B.returns, hml, findClass_of_methodNamed B.named, atoms_spec (ws := wsX5_greatest) B.pre, B.notSynchronized, hK, hbase, hX⟩
  obtain ⟨hx, hb, hr, -, hown, hts, hlocks, -, -, -⟩ := id C0
  have hS : va_S (xA base) s.heap s.heap [] := va_S.rf
  have hl := lv_entry ([.ref a0, .int p1, .int p2, .int p3]) (n := 4) (Nat.le_of_ble_eq_true rfl)
  rw [lg_entry_eq]
  generalize (lg_sl ([.ref a0, .int p1, .int p2, .int p3]) ++ List.replicate (4 - (lg_sl ([.ref a0, .int p1, .int p2, .int p3])).length) Slot.unset).toArray = ls at hl ⊢
  have hl : lv_has ls 4 [(0, .ref a0), (1, .int p1), (2, .int p2), (3, .int p3)] := hl
  unfold wp_X5_greatest at h
  have hL1 : ∀ w ∈ u_ws RX1 TX1 8, w.before _ s = true := fun w h9 => hts w (List.mem_cons_of_mem _ (List.mem_append_left _ (List.mem_append_left _ (List.mem_append_left _ (List.mem_append_left _ (List.mem_append_left _ (List.mem_append_left _ (List.mem_append_right _ (h9)))))))))
  have q2 : (Cond.fieldLink RX5 163 "RollupStore$Rollup" "greatest" "I").before _ s = true := hts _ (List.mem_cons_of_mem _ (List.mem_append_left _ (List.mem_append_left _ (List.mem_append_left _ (List.mem_append_left _ (List.mem_append_left _ (List.mem_append_left _ (List.mem_append_left _ (List.mem_append_left _ (List.mem_of_getElem? (i := 0) rfl))))))))))
  refine lv_aload_n hx hb dX5_greatest_0 rfl (lv_at hl 0 rfl) ?_
  refine lv_iload_n hx hb dX5_greatest_1 rfl (lv_at hl 1 rfl) ?_
  refine lv_iload_n hx hb dX5_greatest_2 rfl (lv_at hl 2 rfl) ?_
  refine lv_iload_n hx hb dX5_greatest_3 rfl (lv_at hl 3 rfl) ?_
  obtain ⟨g1, h⟩ := h
  refine xc_q (va_runV (As := [.int p1, .int p2, .int p3]) (rest := []) ⟨hx, hb, hml, hown, hts⟩ (mtq_X5_rollupAt l G base h) (cwV 3 hts gX5_greatest_X5_rollupAt rfl rfl rfl (by decide +kernel) ⟨Nat.le_of_ble_eq_true rfl, Nat.le_of_ble_eq_true rfl⟩) (xp_V hbase hh hK hX hS (ci := 5) g1 (by decide) rfl) rfl rfl hl.1 rfl (lv_room (Nat.le_of_ble_eq_true rfl)) dX5_greatest_4 ⟨Nat.le_of_ble_eq_true rfl, Nat.le_of_ble_eq_true rfl⟩) hS (fun r2 m3 H locs h hh hS => ?_)
  obtain ⟨b4, eb4, h⟩ := h
  rw [eb4]
  refine W.eq (g2 := F0 m 7 ls [.ref b4]) rfl ?_
  obtain ⟨g5, h⟩ := h
  refine xr_getI (ci := 1) (C := RX1) (T := TX1) (N := 8) hx hb hL1 hown hK hh g5 (by decide) rfl 4 24 rfl rfl (by decide) (by decide) q2 (fun _ h9 => h9) dX5_greatest_7 ?_
  exact (xe_i hx hb hr hlocks hbase hh hK hX hS h (Nat.le_of_ble_eq_true rfl) (Nat.le_of_ble_eq_true rfl) dX5_greatest_10)

set_option maxHeartbeats 4000000 in
set_option maxRecDepth 100000 in
theorem mt_X5_first (l : Launch) (hl9 : l.stackTraces = false) (G : GG) (base : Nat) {a0 : Nat} {p1 : Int32} {p2 : Int32} {p3 : Int32} {m0 : MM} {Q : Int32 → MM → Prop} {X : Nat → MM → Prop} (h : wp_X5_first a0 p1 p2 p3 m0 Q X) : vx_Met l yX5_first wsX5_first ({ frames := 10, cells := 4, slots := 24, locals := 189 }) (va_Pc [.ref a0, .int p1, .int p2, .int p3] (SP G base m0)) (va_Qi Q (HB G base) (xA base)) (xX G base X) 4 24 (xA base) := by
  refine vx_ofW (cc := cX5_first) (maxL := 4) (ret := (some .int)) (by decide) rfl ?_
  intro p e s m args below meth c s₁ B hml hout hv
  obtain ⟨rfl, hbase, hh, hK, hX⟩ := hv
  have C0 : BC p s m _ meth c G base RX5 cX5_first 4 (some .int) wsX5_first := ⟨B.exec, B.bytes, B.returns, hml, findClass_of_methodNamed B.named, atoms_spec (ws := wsX5_first) B.pre, B.notSynchronized, hK, hbase, hX⟩
  obtain ⟨hx, hb, hr, -, hown, hts, hlocks, -, -, -⟩ := id C0
  have hS : va_S (xA base) s.heap s.heap [] := va_S.rf
  have hl := lv_entry ([.ref a0, .int p1, .int p2, .int p3]) (n := 4) (Nat.le_of_ble_eq_true rfl)
  rw [lg_entry_eq]
  generalize (lg_sl ([.ref a0, .int p1, .int p2, .int p3]) ++ List.replicate (4 - (lg_sl ([.ref a0, .int p1, .int p2, .int p3])).length) Slot.unset).toArray = ls at hl ⊢
  have hl : lv_has ls 4 [(0, .ref a0), (1, .int p1), (2, .int p2), (3, .int p3)] := hl
  unfold wp_X5_first at h
  have hL1 : ∀ w ∈ u_ws RX1 TX1 8, w.before _ s = true := fun w h9 => hts w (List.mem_cons_of_mem _ (List.mem_append_left _ (List.mem_append_left _ (List.mem_append_left _ (List.mem_append_left _ (List.mem_append_left _ (List.mem_append_left _ (List.mem_append_right _ (h9)))))))))
  have q2 : (Cond.fieldLink RX5 166 "RollupStore$Rollup" "first" "I").before _ s = true := hts _ (List.mem_cons_of_mem _ (List.mem_append_left _ (List.mem_append_left _ (List.mem_append_left _ (List.mem_append_left _ (List.mem_append_left _ (List.mem_append_left _ (List.mem_append_left _ (List.mem_append_left _ (List.mem_of_getElem? (i := 0) rfl))))))))))
  refine lv_aload_n hx hb dX5_first_0 rfl (lv_at hl 0 rfl) ?_
  refine lv_iload_n hx hb dX5_first_1 rfl (lv_at hl 1 rfl) ?_
  refine lv_iload_n hx hb dX5_first_2 rfl (lv_at hl 2 rfl) ?_
  refine lv_iload_n hx hb dX5_first_3 rfl (lv_at hl 3 rfl) ?_
  obtain ⟨g1, h⟩ := h
  refine xt_q (vx_runV (As := [.int p1, .int p2, .int p3]) (rest := []) ⟨hx, hb, hml, hown, hts⟩ (mt_X5_rollupAt l hl9 G base h) (cwV 3 hts gX5_first_X5_rollupAt rfl rfl rfl (by decide +kernel) ⟨Nat.le_of_ble_eq_true rfl, Nat.le_of_ble_eq_true rfl⟩) (xp_V hbase hh hK hX hS (ci := 5) g1 (by decide) rfl) rfl rfl hl.1 rfl (lv_room (Nat.le_of_ble_eq_true rfl)) dX5_first_4 ⟨Nat.le_of_ble_eq_true rfl, Nat.le_of_ble_eq_true rfl⟩) hS (fun k9 m9 H locs q9 ce h hh hS hc9 hv9 hcl9 => xe_out hout hlocks hbase hh hK hX hS h hc9 hv9 hcl9 (Nat.le_of_ble_eq_true rfl) (Nat.le_of_ble_eq_true rfl)) (fun r2 m3 H locs h hh hS => ?_)
  obtain ⟨b4, eb4, h⟩ := h
  rw [eb4]
  refine W.eq (g2 := F0 m 7 ls [.ref b4]) rfl ?_
  obtain ⟨g5, h⟩ := h
  refine xr_getI (ci := 1) (C := RX1) (T := TX1) (N := 8) hx hb hL1 hown hK hh g5 (by decide) rfl 5 25 rfl rfl (by decide) (by decide) q2 (fun _ h9 => h9) dX5_first_7 ?_
  exact vx_ret (xe_i hx hb hr hlocks hbase hh hK hX hS h (Nat.le_of_ble_eq_true rfl) (Nat.le_of_ble_eq_true rfl) dX5_first_10)

set_option maxHeartbeats 4000000 in
set_option maxRecDepth 100000 in
theorem mtq_X5_first (l : Launch) (G : GG) (base : Nat) {a0 : Nat} {p1 : Int32} {p2 : Int32} {p3 : Int32} {m0 : MM} {Q : Int32 → MM → Prop} (h : wp_X5_first a0 p1 p2 p3 m0 Q (fun _ _ => False)) : Met l yX5_first wsX5_first ({ frames := 10, cells := 0, slots := 0, locals := 189 }) (va_Pc [.ref a0, .int p1, .int p2, .int p3] (SP G base m0)) (va_Qi Q (HB G base) (xA base)) 0 0 (xA base) := by
  refine Met.ofW (cc := cX5_first) (maxL := 4) (ret := (some .int)) (by decide) rfl ?_
  intro p e s m args below meth c s₁ B hml hv
  obtain ⟨rfl, hbase, hh, hK, hX⟩ := hv
  have C0 : BC p s m _ meth c G base RX5 cX5_first 4 (some .int) wsX5_first := ⟨B.exec, B.bytes, B.returns, hml, findClass_of_methodNamed B.named, atoms_spec (ws := wsX5_first) B.pre, B.notSynchronized, hK, hbase, hX⟩
  obtain ⟨hx, hb, hr, -, hown, hts, hlocks, -, -, -⟩ := id C0
  have hS : va_S (xA base) s.heap s.heap [] := va_S.rf
  have hl := lv_entry ([.ref a0, .int p1, .int p2, .int p3]) (n := 4) (Nat.le_of_ble_eq_true rfl)
  rw [lg_entry_eq]
  generalize (lg_sl ([.ref a0, .int p1, .int p2, .int p3]) ++ List.replicate (4 - (lg_sl ([.ref a0, .int p1, .int p2, .int p3])).length) Slot.unset).toArray = ls at hl ⊢
  have hl : lv_has ls 4 [(0, .ref a0), (1, .int p1), (2, .int p2), (3, .int p3)] := hl
  unfold wp_X5_first at h
  have hL1 : ∀ w ∈ u_ws RX1 TX1 8, w.before _ s = true := fun w h9 => hts w (List.mem_cons_of_mem _ (List.mem_append_left _ (List.mem_append_left _ (List.mem_append_left _ (List.mem_append_left _ (List.mem_append_left _ (List.mem_append_left _ (List.mem_append_right _ (h9)))))))))
  have q2 : (Cond.fieldLink RX5 166 "RollupStore$Rollup" "first" "I").before _ s = true := hts _ (List.mem_cons_of_mem _ (List.mem_append_left _ (List.mem_append_left _ (List.mem_append_left _ (List.mem_append_left _ (List.mem_append_left _ (List.mem_append_left _ (List.mem_append_left _ (List.mem_append_left _ (List.mem_of_getElem? (i := 0) rfl))))))))))
  refine lv_aload_n hx hb dX5_first_0 rfl (lv_at hl 0 rfl) ?_
  refine lv_iload_n hx hb dX5_first_1 rfl (lv_at hl 1 rfl) ?_
  refine lv_iload_n hx hb dX5_first_2 rfl (lv_at hl 2 rfl) ?_
  refine lv_iload_n hx hb dX5_first_3 rfl (lv_at hl 3 rfl) ?_
  obtain ⟨g1, h⟩ := h
  refine xc_q (va_runV (As := [.int p1, .int p2, .int p3]) (rest := []) ⟨hx, hb, hml, hown, hts⟩ (mtq_X5_rollupAt l G base h) (cwV 3 hts gX5_first_X5_rollupAt rfl rfl rfl (by decide +kernel) ⟨Nat.le_of_ble_eq_true rfl, Nat.le_of_ble_eq_true rfl⟩) (xp_V hbase hh hK hX hS (ci := 5) g1 (by decide) rfl) rfl rfl hl.1 rfl (lv_room (Nat.le_of_ble_eq_true rfl)) dX5_first_4 ⟨Nat.le_of_ble_eq_true rfl, Nat.le_of_ble_eq_true rfl⟩) hS (fun r2 m3 H locs h hh hS => ?_)
  obtain ⟨b4, eb4, h⟩ := h
  rw [eb4]
  refine W.eq (g2 := F0 m 7 ls [.ref b4]) rfl ?_
  obtain ⟨g5, h⟩ := h
  refine xr_getI (ci := 1) (C := RX1) (T := TX1) (N := 8) hx hb hL1 hown hK hh g5 (by decide) rfl 5 25 rfl rfl (by decide) (by decide) q2 (fun _ h9 => h9) dX5_first_7 ?_
  exact (xe_i hx hb hr hlocks hbase hh hK hX hS h (Nat.le_of_ble_eq_true rfl) (Nat.le_of_ble_eq_true rfl) dX5_first_10)

set_option maxHeartbeats 4000000 in
set_option maxRecDepth 100000 in
theorem mt_X5_average (l : Launch) (hl9 : l.stackTraces = false) (G : GG) (base : Nat) {a0 : Nat} {p1 : Int32} {p2 : Int32} {p3 : Int32} {m0 : MM} {Q : UInt64 → MM → Prop} {X : Nat → MM → Prop} (h : wp_X5_average a0 p1 p2 p3 m0 Q X) : vx_Met l yX5_average wsX5_average ({ frames := 10, cells := 4, slots := 24, locals := 189 }) (va_Pc [.ref a0, .int p1, .int p2, .int p3] (SP G base m0)) (va_Qd Q (HB G base) (xA base)) (xX G base X) 4 24 (xA base) := by
  refine vx_ofW (cc := cX5_average) (maxL := 5) (ret := (some .double)) (by decide) rfl ?_
  intro p e s m args below meth c s₁ B hml hout hv
  obtain ⟨rfl, hbase, hh, hK, hX⟩ := hv
  have C0 : BC p s m _ meth c G base RX5 cX5_average 5 (some .double) wsX5_average := ⟨B.exec, B.bytes, B.returns, hml, findClass_of_methodNamed B.named, atoms_spec (ws := wsX5_average) B.pre, B.notSynchronized, hK, hbase, hX⟩
  obtain ⟨hx, hb, hr, -, hown, hts, hlocks, -, -, -⟩ := id C0
  have hS : va_S (xA base) s.heap s.heap [] := va_S.rf
  have hl := lv_entry ([.ref a0, .int p1, .int p2, .int p3]) (n := 5) (Nat.le_of_ble_eq_true rfl)
  rw [lg_entry_eq]
  generalize (lg_sl ([.ref a0, .int p1, .int p2, .int p3]) ++ List.replicate (5 - (lg_sl ([.ref a0, .int p1, .int p2, .int p3])).length) Slot.unset).toArray = ls at hl ⊢
  have hl : lv_has ls 5 [(0, .ref a0), (1, .int p1), (2, .int p2), (3, .int p3)] := hl
  unfold wp_X5_average at h
  have hL1 : ∀ w ∈ u_ws RX1 TX1 8, w.before _ s = true := fun w h9 => hts w (List.mem_cons_of_mem _ (List.mem_append_left _ (List.mem_append_left _ (List.mem_append_left _ (List.mem_append_left _ (List.mem_append_left _ (List.mem_append_left _ (List.mem_append_right _ (h9)))))))))
  have q2 : (Cond.fieldLink RX5 153 "RollupStore$Rollup" "sum" "J").before _ s = true := hts _ (List.mem_cons_of_mem _ (List.mem_append_left _ (List.mem_append_left _ (List.mem_append_left _ (List.mem_append_left _ (List.mem_append_left _ (List.mem_append_left _ (List.mem_append_left _ (List.mem_append_left _ (List.mem_of_getElem? (i := 0) rfl))))))))))
  have q3 : (Cond.fieldLink RX5 150 "RollupStore$Rollup" "count" "I").before _ s = true := hts _ (List.mem_cons_of_mem _ (List.mem_append_left _ (List.mem_append_left _ (List.mem_append_left _ (List.mem_append_left _ (List.mem_append_left _ (List.mem_append_left _ (List.mem_append_left _ (List.mem_append_left _ (List.mem_of_getElem? (i := 1) rfl))))))))))
  have q4 : (Cond.methodLink RX5 157 Lib.Math.max.name).before _ s = true := hts _ (List.mem_cons_of_mem _ (List.mem_append_left _ (List.mem_append_left _ (List.mem_append_left _ (List.mem_append_left _ (List.mem_append_left _ (List.mem_append_left _ (List.mem_append_left _ (List.mem_append_left _ (List.mem_of_getElem? (i := 2) rfl))))))))))
  have q5 : (Cond.static Lib.Math.max.name).before _ s = true := hts _ (List.mem_cons_of_mem _ (List.mem_append_left _ (List.mem_append_left _ (List.mem_append_left _ (List.mem_append_left _ (List.mem_append_left _ (List.mem_append_left _ (List.mem_append_left _ (List.mem_append_left _ (List.mem_of_getElem? (i := 3) rfl))))))))))
  have q6 : (Cond.initialized "java/lang/Math").before _ s = true := hts _ (List.mem_cons_of_mem _ (List.mem_append_left _ (List.mem_append_left _ (List.mem_append_left _ (List.mem_append_left _ (List.mem_append_left _ (List.mem_append_left _ (List.mem_append_left _ (List.mem_append_left _ (List.mem_of_getElem? (i := 4) rfl))))))))))
  have q7 : (Cond.code Lib.Math.max.name Lib.Math.max.code 2 (some .int)).before _ s = true := hts _ (List.mem_cons_of_mem _ (List.mem_append_left _ (List.mem_append_left _ (List.mem_append_left _ (List.mem_append_left _ (List.mem_append_left _ (List.mem_append_left _ (List.mem_append_left _ (List.mem_append_left _ (List.mem_of_getElem? (i := 5) rfl))))))))))
  refine lv_aload_n hx hb dX5_average_0 rfl (lv_at hl 0 rfl) ?_
  refine lv_iload_n hx hb dX5_average_1 rfl (lv_at hl 1 rfl) ?_
  refine lv_iload_n hx hb dX5_average_2 rfl (lv_at hl 2 rfl) ?_
  refine lv_iload_n hx hb dX5_average_3 rfl (lv_at hl 3 rfl) ?_
  obtain ⟨g1, h⟩ := h
  refine xt_q (vx_runV (As := [.int p1, .int p2, .int p3]) (rest := []) ⟨hx, hb, hml, hown, hts⟩ (mt_X5_rollupAt l hl9 G base h) (cwV 3 hts gX5_average_X5_rollupAt rfl rfl rfl (by decide +kernel) ⟨Nat.le_of_ble_eq_true rfl, Nat.le_of_ble_eq_true rfl⟩) (xp_V hbase hh hK hX hS (ci := 5) g1 (by decide) rfl) rfl rfl hl.1 rfl (lv_room (Nat.le_of_ble_eq_true rfl)) dX5_average_4 ⟨Nat.le_of_ble_eq_true rfl, Nat.le_of_ble_eq_true rfl⟩) hS (fun k9 m9 H locs q9 ce h hh hS hc9 hv9 hcl9 => xe_out hout hlocks hbase hh hK hX hS h hc9 hv9 hcl9 (Nat.le_of_ble_eq_true rfl) (Nat.le_of_ble_eq_true rfl)) (fun r2 m3 H locs h hh hS => ?_)
  obtain ⟨b4, eb4, h⟩ := h
  rw [eb4]
  refine W.eq (g2 := F0 m 7 ls [.ref b4]) rfl ?_
  refine lv_astore (lv' := [(4, .ref b4), (0, .ref a0), (1, .int p1), (2, .int p2), (3, .int p3)]) hx hb dX5_average_7 hl (by decide) rfl (fun ls hl => ?_)
  refine lv_aload hx hb dX5_average_9 (lv_at hl 0 rfl) ?_
  obtain ⟨g5, h⟩ := h
  refine xr_getJ (ci := 1) (C := RX1) (T := TX1) (N := 8) hx hb hL1 hown hK hh g5 (by decide) rfl 2 22 rfl rfl (by decide) (by decide) q2 (fun _ h9 => h9) dX5_average_11 ?_
  refine lv_l2d hx hb dX5_average_14 ?_
  refine lv_iconst (v := 1) hx hb dX5_average_15 (by decide) ?_
  refine lv_aload hx hb dX5_average_16 (lv_at hl 0 rfl) ?_
  obtain ⟨g6, h⟩ := h
  refine xr_getI (ci := 1) (C := RX1) (T := TX1) (N := 8) hx hb hL1 hown hK hh g6 (by decide) rfl 1 21 rfl rfl (by decide) (by decide) q3 (fun _ h9 => h9) dX5_average_18 ?_
  refine va_mmax hx hb (hml.trans hl.1.symm) hown q4 q5 q6 q7 (Nat.le_of_ble_eq_true rfl) (Nat.le_of_ble_eq_true rfl) (Nat.le_of_ble_eq_true rfl) (Nat.le_of_ble_eq_true rfl) dX5_average_21 ?_
  refine lv_i2d hx hb dX5_average_24 ?_
  obtain ⟨g7, h⟩ := h
  refine lv_ddiv hx hb dX5_average_25 g7 ?_
  exact vx_ret (xe_d hx hb hr hlocks hbase hh hK hX hS h (Nat.le_of_ble_eq_true rfl) (Nat.le_of_ble_eq_true rfl) dX5_average_26)

set_option maxHeartbeats 4000000 in
set_option maxRecDepth 100000 in
theorem mtq_X5_average (l : Launch) (G : GG) (base : Nat) {a0 : Nat} {p1 : Int32} {p2 : Int32} {p3 : Int32} {m0 : MM} {Q : UInt64 → MM → Prop} (h : wp_X5_average a0 p1 p2 p3 m0 Q (fun _ _ => False)) : Met l yX5_average wsX5_average ({ frames := 10, cells := 0, slots := 0, locals := 189 }) (va_Pc [.ref a0, .int p1, .int p2, .int p3] (SP G base m0)) (va_Qd Q (HB G base) (xA base)) 0 0 (xA base) := by
  refine Met.ofW (cc := cX5_average) (maxL := 5) (ret := (some .double)) (by decide) rfl ?_
  intro p e s m args below meth c s₁ B hml hv
  obtain ⟨rfl, hbase, hh, hK, hX⟩ := hv
  have C0 : BC p s m _ meth c G base RX5 cX5_average 5 (some .double) wsX5_average := ⟨B.exec, B.bytes, B.returns, hml, findClass_of_methodNamed B.named, atoms_spec (ws := wsX5_average) B.pre, B.notSynchronized, hK, hbase, hX⟩
  obtain ⟨hx, hb, hr, -, hown, hts, hlocks, -, -, -⟩ := id C0
  have hS : va_S (xA base) s.heap s.heap [] := va_S.rf
  have hl := lv_entry ([.ref a0, .int p1, .int p2, .int p3]) (n := 5) (Nat.le_of_ble_eq_true rfl)
  rw [lg_entry_eq]
  generalize (lg_sl ([.ref a0, .int p1, .int p2, .int p3]) ++ List.replicate (5 - (lg_sl ([.ref a0, .int p1, .int p2, .int p3])).length) Slot.unset).toArray = ls at hl ⊢
  have hl : lv_has ls 5 [(0, .ref a0), (1, .int p1), (2, .int p2), (3, .int p3)] := hl
  unfold wp_X5_average at h
  have hL1 : ∀ w ∈ u_ws RX1 TX1 8, w.before _ s = true := fun w h9 => hts w (List.mem_cons_of_mem _ (List.mem_append_left _ (List.mem_append_left _ (List.mem_append_left _ (List.mem_append_left _ (List.mem_append_left _ (List.mem_append_left _ (List.mem_append_right _ (h9)))))))))
  have q2 : (Cond.fieldLink RX5 153 "RollupStore$Rollup" "sum" "J").before _ s = true := hts _ (List.mem_cons_of_mem _ (List.mem_append_left _ (List.mem_append_left _ (List.mem_append_left _ (List.mem_append_left _ (List.mem_append_left _ (List.mem_append_left _ (List.mem_append_left _ (List.mem_append_left _ (List.mem_of_getElem? (i := 0) rfl))))))))))
  have q3 : (Cond.fieldLink RX5 150 "RollupStore$Rollup" "count" "I").before _ s = true := hts _ (List.mem_cons_of_mem _ (List.mem_append_left _ (List.mem_append_left _ (List.mem_append_left _ (List.mem_append_left _ (List.mem_append_left _ (List.mem_append_left _ (List.mem_append_left _ (List.mem_append_left _ (List.mem_of_getElem? (i := 1) rfl))))))))))
  have q4 : (Cond.methodLink RX5 157 Lib.Math.max.name).before _ s = true := hts _ (List.mem_cons_of_mem _ (List.mem_append_left _ (List.mem_append_left _ (List.mem_append_left _ (List.mem_append_left _ (List.mem_append_left _ (List.mem_append_left _ (List.mem_append_left _ (List.mem_append_left _ (List.mem_of_getElem? (i := 2) rfl))))))))))
  have q5 : (Cond.static Lib.Math.max.name).before _ s = true := hts _ (List.mem_cons_of_mem _ (List.mem_append_left _ (List.mem_append_left _ (List.mem_append_left _ (List.mem_append_left _ (List.mem_append_left _ (List.mem_append_left _ (List.mem_append_left _ (List.mem_append_left _ (List.mem_of_getElem? (i := 3) rfl))))))))))
  have q6 : (Cond.initialized "java/lang/Math").before _ s = true := hts _ (List.mem_cons_of_mem _ (List.mem_append_left _ (List.mem_append_left _ (List.mem_append_left _ (List.mem_append_left _ (List.mem_append_left _ (List.mem_append_left _ (List.mem_append_left _ (List.mem_append_left _ (List.mem_of_getElem? (i := 4) rfl))))))))))
  have q7 : (Cond.code Lib.Math.max.name Lib.Math.max.code 2 (some .int)).before _ s = true := hts _ (List.mem_cons_of_mem _ (List.mem_append_left _ (List.mem_append_left _ (List.mem_append_left _ (List.mem_append_left _ (List.mem_append_left _ (List.mem_append_left _ (List.mem_append_left _ (List.mem_append_left _ (List.mem_of_getElem? (i := 5) rfl))))))))))
  refine lv_aload_n hx hb dX5_average_0 rfl (lv_at hl 0 rfl) ?_
  refine lv_iload_n hx hb dX5_average_1 rfl (lv_at hl 1 rfl) ?_
  refine lv_iload_n hx hb dX5_average_2 rfl (lv_at hl 2 rfl) ?_
  refine lv_iload_n hx hb dX5_average_3 rfl (lv_at hl 3 rfl) ?_
  obtain ⟨g1, h⟩ := h
  refine xc_q (va_runV (As := [.int p1, .int p2, .int p3]) (rest := []) ⟨hx, hb, hml, hown, hts⟩ (mtq_X5_rollupAt l G base h) (cwV 3 hts gX5_average_X5_rollupAt rfl rfl rfl (by decide +kernel) ⟨Nat.le_of_ble_eq_true rfl, Nat.le_of_ble_eq_true rfl⟩) (xp_V hbase hh hK hX hS (ci := 5) g1 (by decide) rfl) rfl rfl hl.1 rfl (lv_room (Nat.le_of_ble_eq_true rfl)) dX5_average_4 ⟨Nat.le_of_ble_eq_true rfl, Nat.le_of_ble_eq_true rfl⟩) hS (fun r2 m3 H locs h hh hS => ?_)
  obtain ⟨b4, eb4, h⟩ := h
  rw [eb4]
  refine W.eq (g2 := F0 m 7 ls [.ref b4]) rfl ?_
  refine lv_astore (lv' := [(4, .ref b4), (0, .ref a0), (1, .int p1), (2, .int p2), (3, .int p3)]) hx hb dX5_average_7 hl (by decide) rfl (fun ls hl => ?_)
  refine lv_aload hx hb dX5_average_9 (lv_at hl 0 rfl) ?_
  obtain ⟨g5, h⟩ := h
  refine xr_getJ (ci := 1) (C := RX1) (T := TX1) (N := 8) hx hb hL1 hown hK hh g5 (by decide) rfl 2 22 rfl rfl (by decide) (by decide) q2 (fun _ h9 => h9) dX5_average_11 ?_
  refine lv_l2d hx hb dX5_average_14 ?_
  refine lv_iconst (v := 1) hx hb dX5_average_15 (by decide) ?_
  refine lv_aload hx hb dX5_average_16 (lv_at hl 0 rfl) ?_
  obtain ⟨g6, h⟩ := h
  refine xr_getI (ci := 1) (C := RX1) (T := TX1) (N := 8) hx hb hL1 hown hK hh g6 (by decide) rfl 1 21 rfl rfl (by decide) (by decide) q3 (fun _ h9 => h9) dX5_average_18 ?_
  refine va_mmax hx hb (hml.trans hl.1.symm) hown q4 q5 q6 q7 (Nat.le_of_ble_eq_true rfl) (Nat.le_of_ble_eq_true rfl) (Nat.le_of_ble_eq_true rfl) (Nat.le_of_ble_eq_true rfl) dX5_average_21 ?_
  refine lv_i2d hx hb dX5_average_24 ?_
  obtain ⟨g7, h⟩ := h
  refine lv_ddiv hx hb dX5_average_25 g7 ?_
  exact (xe_d hx hb hr hlocks hbase hh hK hX hS h (Nat.le_of_ble_eq_true rfl) (Nat.le_of_ble_eq_true rfl) dX5_average_26)

set_option maxHeartbeats 4000000 in
set_option maxRecDepth 100000 in
theorem mt_X4_init (l : Launch) (G : GG) (base : Nat) {a0 : Nat} {m0 : MM} {Q : MM → Prop} (h : wp_X4_init a0 m0 Q) : Met l yX4_init wsX4_init ({ frames := 1, cells := 0, slots := 0, locals := 70 }) (va_Pc [.ref a0] (SP G base m0)) (va_Qv Q (HB G base) (xA base)) 0 0 (xA base) := by
  refine Met.ofW (cc := cX4_init) (maxL := 1) (ret := none) (by decide) rfl ?_
  intro p e s m args below meth c s₁ B hml hv
  obtain ⟨rfl, hbase, hh, hK, hX⟩ := hv
  have C0 : BC p s m _ meth c G base RX4 cX4_init 1 none wsX4_init := ⟨B.exec, B.bytes, B.returns, hml, findClass_of_methodNamed B.named, atoms_spec (ws := wsX4_init) B.pre, B.notSynchronized, hK, hbase, hX⟩
  obtain ⟨hx, hb, hr, -, hown, hts, hlocks, -, -, -⟩ := id C0
  have hin : meth.name = "<init>" := (name_of_methodNamed B.named B.method).1
  have hS : va_S (xA base) s.heap s.heap [] := va_S.rf
  have hl := lv_entry ([.ref a0]) (n := 1) (Nat.le_of_ble_eq_true rfl)
  rw [lg_entry_eq]
  generalize (lg_sl ([.ref a0]) ++ List.replicate (1 - (lg_sl ([.ref a0])).length) Slot.unset).toArray = ls at hl ⊢
  have hl : lv_has ls 1 [(0, .ref a0)] := hl
  unfold wp_X4_init at h
  have q1 : (Cond.methodLink RX4 3 objectInit).before _ s = true := hts _ (List.mem_cons_of_mem _ (List.mem_of_getElem? (i := 0) rfl))
  have q2 : (Cond.instanceMethod objectInit).before _ s = true := hts _ (List.mem_cons_of_mem _ (List.mem_of_getElem? (i := 1) rfl))
  have q3 : (Cond.code objectInit ⟨#[0xb1]⟩ 1 none).before _ s = true := hts _ (List.mem_cons_of_mem _ (List.mem_of_getElem? (i := 2) rfl))
  refine lv_aload_n hx hb dX4_init_0 rfl (lv_at hl 0 rfl) ?_
  refine W.objInit hx hb hown q1 q2 q3 rfl (by rw [hml]; exact hl.1) rfl dX4_init_1 (Nat.le_of_ble_eq_true rfl) (Nat.le_of_ble_eq_true rfl) ?_
  refine W.eq (g2 := F0 m 4 ls []) rfl ?_
  exact (xe_v hx hb hr hlocks hbase hh hK hX hS h (Nat.le_of_ble_eq_true rfl) (Nat.le_of_ble_eq_true rfl) dX4_init_4)

set_option maxHeartbeats 4000000 in
set_option maxRecDepth 100000 in
theorem mt_X5_init (l : Launch) (G : GG) (base : Nat) {a0 : Nat} {m0 : MM} {Q : MM → Prop} (h : wp_X5_init a0 m0 Q) : Met l yX5_init wsX5_init ({ frames := 2, cells := 5, slots := 26, locals := 90 }) (va_Pc [.ref a0] (SP G base m0)) (va_Qv Q (HB G base) (xA base)) 5 26 (xA base) := by
  refine Met.ofW (cc := cX5_init) (maxL := 1) (ret := none) (by decide) rfl ?_
  intro p e s m args below meth c s₁ B hml hv
  obtain ⟨rfl, hbase, hh, hK, hX⟩ := hv
  have C0 : BC p s m _ meth c G base RX5 cX5_init 1 none wsX5_init := ⟨B.exec, B.bytes, B.returns, hml, findClass_of_methodNamed B.named, atoms_spec (ws := wsX5_init) B.pre, B.notSynchronized, hK, hbase, hX⟩
  obtain ⟨hx, hb, hr, -, hown, hts, hlocks, -, -, -⟩ := id C0
  have hin : meth.name = "<init>" := (name_of_methodNamed B.named B.method).1
  have hS : va_S (xA base) s.heap s.heap [] := va_S.rf
  have hl := lv_entry ([.ref a0]) (n := 1) (Nat.le_of_ble_eq_true rfl)
  rw [lg_entry_eq]
  generalize (lg_sl ([.ref a0]) ++ List.replicate (1 - (lg_sl ([.ref a0])).length) Slot.unset).toArray = ls at hl ⊢
  have hl : lv_has ls 1 [(0, .ref a0)] := hl
  unfold wp_X5_init at h
  have q1 : (Cond.methodLink RX5 1 objectInit).before _ s = true := hts _ (List.mem_cons_of_mem _ (List.mem_append_left _ (List.mem_append_left _ (List.mem_append_left _ (List.mem_append_left _ (List.mem_of_getElem? (i := 0) rfl))))))
  have q2 : (Cond.instanceMethod objectInit).before _ s = true := hts _ (List.mem_cons_of_mem _ (List.mem_append_left _ (List.mem_append_left _ (List.mem_append_left _ (List.mem_append_left _ (List.mem_of_getElem? (i := 1) rfl))))))
  have q3 : (Cond.code objectInit ⟨#[0xb1]⟩ 1 none).before _ s = true := hts _ (List.mem_cons_of_mem _ (List.mem_append_left _ (List.mem_append_left _ (List.mem_append_left _ (List.mem_append_left _ (List.mem_of_getElem? (i := 2) rfl))))))
  have q4 : (Cond.classLink RX5 9 RX3).before _ s = true := hts _ (List.mem_cons_of_mem _ (List.mem_append_left _ (List.mem_append_left _ (List.mem_append_left _ (List.mem_append_left _ (List.mem_of_getElem? (i := 3) rfl))))))
  have hL5 : ∀ w ∈ u_ws RX5 TX5 7, w.before _ s = true := fun w h9 => hts w (List.mem_cons_of_mem _ (List.mem_append_left _ (List.mem_append_left _ (List.mem_append_right _ (h9)))))
  have q6 : (Cond.fieldLink RX5 11 "RollupStore" "kept" "[LRollupStore$Series;").before _ s = true := hts _ (List.mem_cons_of_mem _ (List.mem_append_left _ (List.mem_append_left _ (List.mem_append_left _ (List.mem_append_left _ (List.mem_of_getElem? (i := 4) rfl))))))
  have q7 : (Cond.arrayClass .int).before _ s = true := hts _ (List.mem_cons_of_mem _ (List.mem_append_left _ (List.mem_append_left _ (List.mem_append_left _ (List.mem_append_left _ (List.mem_of_getElem? (i := 5) rfl))))))
  have q8 : (Cond.constant RX5 15 (86400)).before _ s = true := hts _ (List.mem_cons_of_mem _ (List.mem_append_left _ (List.mem_append_left _ (List.mem_append_left _ (List.mem_append_left _ (List.mem_of_getElem? (i := 6) rfl))))))
  have q9 : (Cond.constant RX5 16 (864000)).before _ s = true := hts _ (List.mem_cons_of_mem _ (List.mem_append_left _ (List.mem_append_left _ (List.mem_append_left _ (List.mem_append_left _ (List.mem_of_getElem? (i := 7) rfl))))))
  have q10 : (Cond.constant RX5 17 (8640000)).before _ s = true := hts _ (List.mem_cons_of_mem _ (List.mem_append_left _ (List.mem_append_left _ (List.mem_append_left _ (List.mem_append_left _ (List.mem_of_getElem? (i := 8) rfl))))))
  have q11 : (Cond.fieldLink RX5 18 "RollupStore" "retention" "[I").before _ s = true := hts _ (List.mem_cons_of_mem _ (List.mem_append_left _ (List.mem_append_left _ (List.mem_append_left _ (List.mem_append_left _ (List.mem_of_getElem? (i := 9) rfl))))))
  have q12 : (Cond.fieldLink RX5 22 "RollupStore" "horizon" "[I").before _ s = true := hts _ (List.mem_cons_of_mem _ (List.mem_append_left _ (List.mem_append_left _ (List.mem_append_left _ (List.mem_append_left _ (List.mem_of_getElem? (i := 10) rfl))))))
  have hL4 : ∀ w ∈ u_ws RX4 TX4 6, w.before _ s = true := fun w h9 => hts w (List.mem_cons_of_mem _ (List.mem_append_left _ (List.mem_append_right _ (h9))))
  have q14 : (Cond.classLink RX5 25 RX4).before _ s = true := hts _ (List.mem_cons_of_mem _ (List.mem_append_left _ (List.mem_append_left _ (List.mem_append_left _ (List.mem_append_left _ (List.mem_of_getElem? (i := 11) rfl))))))
  have q15 : (Cond.instantiable RX4 6).before _ s = true := hts _ (List.mem_cons_of_mem _ (List.mem_append_left _ (List.mem_append_left _ (List.mem_append_left _ (List.mem_append_left _ (List.mem_of_getElem? (i := 12) rfl))))))
  have q16 : (Cond.initialized RX4).before _ s = true := hts _ (List.mem_cons_of_mem _ (List.mem_append_left _ (List.mem_append_left _ (List.mem_append_left _ (List.mem_append_left _ (List.mem_of_getElem? (i := 13) rfl))))))
  have q17 : (Cond.instanceMethod yX4_init).before _ s = true := hts _ (List.mem_cons_of_mem _ (List.mem_append_left _ (List.mem_append_left _ (List.mem_append_left _ (List.mem_append_left _ (List.mem_of_getElem? (i := 19) rfl))))))
  have q18 : (Cond.fieldLink RX5 28 "RollupStore" "window" "LRollupStore$Window;").before _ s = true := hts _ (List.mem_cons_of_mem _ (List.mem_append_left _ (List.mem_append_left _ (List.mem_append_left _ (List.mem_append_left _ (List.mem_of_getElem? (i := 14) rfl))))))
  have hL1 : ∀ w ∈ u_ws RX1 TX1 8, w.before _ s = true := fun w h9 => hts w (List.mem_cons_of_mem _ (List.mem_append_right _ (h9)))
  have q20 : (Cond.classLink RX5 32 RX1).before _ s = true := hts _ (List.mem_cons_of_mem _ (List.mem_append_left _ (List.mem_append_left _ (List.mem_append_left _ (List.mem_append_left _ (List.mem_of_getElem? (i := 15) rfl))))))
  have q21 : (Cond.instantiable RX1 8).before _ s = true := hts _ (List.mem_cons_of_mem _ (List.mem_append_left _ (List.mem_append_left _ (List.mem_append_left _ (List.mem_append_left _ (List.mem_of_getElem? (i := 16) rfl))))))
  have q22 : (Cond.initialized RX1).before _ s = true := hts _ (List.mem_cons_of_mem _ (List.mem_append_left _ (List.mem_append_left _ (List.mem_append_left _ (List.mem_append_left _ (List.mem_of_getElem? (i := 17) rfl))))))
  have q23 : (Cond.instanceMethod yX1_init).before _ s = true := hts _ (List.mem_cons_of_mem _ (List.mem_append_left _ (List.mem_append_left _ (List.mem_append_left _ (List.mem_append_left _ (List.mem_of_getElem? (i := 22) rfl))))))
  have q24 : (Cond.fieldLink RX5 35 "RollupStore" "summary" "LRollupStore$Rollup;").before _ s = true := hts _ (List.mem_cons_of_mem _ (List.mem_append_left _ (List.mem_append_left _ (List.mem_append_left _ (List.mem_append_left _ (List.mem_of_getElem? (i := 18) rfl))))))
  refine lv_aload_n hx hb dX5_init_0 rfl (lv_at hl 0 rfl) ?_
  refine W.objInit hx hb hown q1 q2 q3 rfl (by rw [hml]; exact hl.1) rfl dX5_init_1 (Nat.le_of_ble_eq_true rfl) (Nat.le_of_ble_eq_true rfl) ?_
  refine W.eq (g2 := F0 m 4 ls []) rfl ?_
  refine lv_aload_n hx hb dX5_init_4 rfl (lv_at hl 0 rfl) ?_
  refine lv_iconst (v := 4) hx hb dX5_init_5 (by decide) ?_
  refine xr_news hx hb hown q4 hX.2.2.2.2.2.2.1 hK hh hS hbase (n := 4) (N' := 4) (by decide) (by decide) (by decide) (Nat.le_of_ble_eq_true rfl) (Nat.le_of_ble_eq_true rfl) dX5_init_6 (fun a1 H ga1 gba1 hh hS => ?_)
  replace h := h a1 ga1
  obtain ⟨m2, em2⟩ : ∃ z : MM, z = nw m0 15 4 a1 := ⟨_, rfl⟩
  rw [← em2] at hh
  replace h := h m2 em2
  obtain ⟨g3, h⟩ := h
  refine xr_putRF (ci := 5) (C := RX5) (T := TX5) (N := 7) hx hb hL5 hown hK hh g3 (by decide) rfl 0 100 rfl rfl (by decide) (by decide) q6 (fun _ h9 => h9) tyX5 tyX5_ok nmX5 rfl hin rfl rfl rfl hS dX5_init_9 (fun H locs hh hS => ?_)
  obtain ⟨m4, em4⟩ : ∃ z : MM, z = sR m2 100 a0 (some a1) := ⟨_, rfl⟩
  rw [← em4] at hh
  replace h := h m4 em4
  refine lv_aload_n hx hb dX5_init_12 rfl (lv_at hl 0 rfl) ?_
  refine lv_iconst (v := 4) hx hb dX5_init_13 (by decide) ?_
  refine xr_newi hx hb q7 hK hh hS hbase (n := 4) (N' := 4) (by decide) (by decide) (by decide) (Nat.le_of_ble_eq_true rfl) (Nat.le_of_ble_eq_true rfl) dX5_init_14 (fun a5 H ga5 gba5 hh hS => ?_)
  replace h := h a5 ga5
  obtain ⟨m6, em6⟩ : ∃ z : MM, z = nw m4 11 4 a5 := ⟨_, rfl⟩
  rw [← em6] at hh
  replace h := h m6 em6
  refine lv_dup hx hb dX5_init_16 rfl ?_
  refine lv_iconst (v := 0) hx hb dX5_init_17 (by decide) ?_
  refine lv_sipush (v := 7200) hx hb dX5_init_18 (by decide) ?_
  obtain ⟨g7, h⟩ := h
  obtain ⟨g8, h⟩ := h
  refine xr_iast hx hb hK hh g7 hS g8 dX5_init_21 (fun H locs hh hS => ?_)
  obtain ⟨m9, em9⟩ : ∃ z : MM, z = sAI m6 a5 (va_up (mAI m6 a5) (0 : Int32).toNatClampNeg (7200 : Int32)) := ⟨_, rfl⟩
  rw [← em9] at hh
  replace h := h m9 em9
  refine lv_dup hx hb dX5_init_22 rfl ?_
  refine lv_iconst (v := 1) hx hb dX5_init_23 (by decide) ?_
  refine lv_ldc hx hb hown q8 dX5_init_24 ?_
  obtain ⟨g10, h⟩ := h
  obtain ⟨g11, h⟩ := h
  refine xr_iast hx hb hK hh g10 hS g11 dX5_init_26 (fun H locs hh hS => ?_)
  obtain ⟨m12, em12⟩ : ∃ z : MM, z = sAI m9 a5 (va_up (mAI m9 a5) (1 : Int32).toNatClampNeg (86400 : Int32)) := ⟨_, rfl⟩
  rw [← em12] at hh
  replace h := h m12 em12
  refine lv_dup hx hb dX5_init_27 rfl ?_
  refine lv_iconst (v := 2) hx hb dX5_init_28 (by decide) ?_
  refine lv_ldc hx hb hown q9 dX5_init_29 ?_
  obtain ⟨g13, h⟩ := h
  obtain ⟨g14, h⟩ := h
  refine xr_iast hx hb hK hh g13 hS g14 dX5_init_31 (fun H locs hh hS => ?_)
  obtain ⟨m15, em15⟩ : ∃ z : MM, z = sAI m12 a5 (va_up (mAI m12 a5) (2 : Int32).toNatClampNeg (864000 : Int32)) := ⟨_, rfl⟩
  rw [← em15] at hh
  replace h := h m15 em15
  refine lv_dup hx hb dX5_init_32 rfl ?_
  refine lv_iconst (v := 3) hx hb dX5_init_33 (by decide) ?_
  refine lv_ldc hx hb hown q10 dX5_init_34 ?_
  obtain ⟨g16, h⟩ := h
  obtain ⟨g17, h⟩ := h
  refine xr_iast hx hb hK hh g16 hS g17 dX5_init_36 (fun H locs hh hS => ?_)
  obtain ⟨m18, em18⟩ : ∃ z : MM, z = sAI m15 a5 (va_up (mAI m15 a5) (3 : Int32).toNatClampNeg (8640000 : Int32)) := ⟨_, rfl⟩
  rw [← em18] at hh
  replace h := h m18 em18
  obtain ⟨g19, h⟩ := h
  refine xr_putRF (ci := 5) (C := RX5) (T := TX5) (N := 7) hx hb hL5 hown hK hh g19 (by decide) rfl 3 103 rfl rfl (by decide) (by decide) q11 (fun _ h9 => h9) tyX5 tyX5_ok nmX5 rfl hin rfl rfl rfl hS dX5_init_37 (fun H locs hh hS => ?_)
  obtain ⟨m20, em20⟩ : ∃ z : MM, z = sR m18 103 a0 (some a5) := ⟨_, rfl⟩
  rw [← em20] at hh
  replace h := h m20 em20
  refine lv_aload_n hx hb dX5_init_40 rfl (lv_at hl 0 rfl) ?_
  refine lv_iconst (v := 4) hx hb dX5_init_41 (by decide) ?_
  refine xr_newi hx hb q7 hK hh hS hbase (n := 4) (N' := 4) (by decide) (by decide) (by decide) (Nat.le_of_ble_eq_true rfl) (Nat.le_of_ble_eq_true rfl) dX5_init_42 (fun a21 H ga21 gba21 hh hS => ?_)
  replace h := h a21 ga21
  obtain ⟨m22, em22⟩ : ∃ z : MM, z = nw m20 11 4 a21 := ⟨_, rfl⟩
  rw [← em22] at hh
  replace h := h m22 em22
  obtain ⟨g23, h⟩ := h
  refine xr_putRF (ci := 5) (C := RX5) (T := TX5) (N := 7) hx hb hL5 hown hK hh g23 (by decide) rfl 4 104 rfl rfl (by decide) (by decide) q12 (fun _ h9 => h9) tyX5 tyX5_ok nmX5 rfl hin rfl rfl rfl hS dX5_init_44 (fun H locs hh hS => ?_)
  obtain ⟨m24, em24⟩ : ∃ z : MM, z = sR m22 104 a0 (some a21) := ⟨_, rfl⟩
  rw [← em24] at hh
  replace h := h m24 em24
  refine lv_aload_n hx hb dX5_init_47 rfl (lv_at hl 0 rfl) ?_
  refine xr_new (ci := 4) (C := RX4) (T := TX4) (N := 6) hx hb hL4 tyX4 tyX4_ok hown q14 q15 q16 hK hh hS hbase (by decide) rfl xd_4 (Nat.le_of_ble_eq_true rfl) (Nat.le_of_ble_eq_true rfl) dX5_init_48 (fun a25 H ga25 gba25 hh hS => ?_)
  replace h := h a25 ga25
  obtain ⟨m26, em26⟩ : ∃ z : MM, z = nw m24 5 0 a25 := ⟨_, rfl⟩
  rw [← em26] at hh
  replace h := h m26 em26
  refine lv_dup hx hb dX5_init_51 rfl ?_
  refine xc_v (va_runIN (As := []) (rest := [.ref a25, .ref a0]) ⟨hx, hb, hml, hown, hts⟩ (mt_X4_init l G base h) ⟨va_cnB 0 hts gX5_init_X4_init_n27 rfl rfl rfl (hX.2.2.2.2.2.2.2.1 _ (List.mem_of_getElem? (i := 0) rfl)) q16 (by decide +kernel) ⟨Nat.le_of_ble_eq_true rfl, Nat.le_of_ble_eq_true rfl⟩, rfl, q17⟩ (xp_S hbase hh hK hX hS) rfl rfl hl.1 rfl (lv_room (Nat.le_of_ble_eq_true rfl)) dX5_init_52 ⟨Nat.le_of_ble_eq_true rfl, Nat.le_of_ble_eq_true rfl⟩) hS (fun m28 H locs h hh hS => ?_)
  obtain ⟨g29, h⟩ := h
  refine xr_putRF (ci := 5) (C := RX5) (T := TX5) (N := 7) hx hb hL5 hown hK hh g29 (by decide) rfl 5 105 rfl rfl (by decide) (by decide) q18 (fun _ h9 => h9) tyX5 tyX5_ok nmX5 rfl hin rfl rfl rfl hS dX5_init_55 (fun H locs hh hS => ?_)
  obtain ⟨m30, em30⟩ : ∃ z : MM, z = sR m28 105 a0 (some a25) := ⟨_, rfl⟩
  rw [← em30] at hh
  replace h := h m30 em30
  refine lv_aload_n hx hb dX5_init_58 rfl (lv_at hl 0 rfl) ?_
  refine xr_new (ci := 1) (C := RX1) (T := TX1) (N := 8) hx hb hL1 tyX1 tyX1_ok hown q20 q21 q22 hK hh hS hbase (by decide) rfl xd_1 (Nat.le_of_ble_eq_true rfl) (Nat.le_of_ble_eq_true rfl) dX5_init_59 (fun a31 H ga31 gba31 hh hS => ?_)
  replace h := h a31 ga31
  obtain ⟨m32, em32⟩ : ∃ z : MM, z = nw m30 2 0 a31 := ⟨_, rfl⟩
  rw [← em32] at hh
  replace h := h m32 em32
  refine lv_dup hx hb dX5_init_62 rfl ?_
  refine xc_v (va_runIN (As := []) (rest := [.ref a31, .ref a0]) ⟨hx, hb, hml, hown, hts⟩ (mt_X1_init l G base h) ⟨va_cnB 0 hts gX5_init_X1_init_n34 rfl rfl rfl (hX.2.2.2.2.2.2.2.1 _ (List.mem_of_getElem? (i := 1) rfl)) q22 (by decide +kernel) ⟨Nat.le_of_ble_eq_true rfl, Nat.le_of_ble_eq_true rfl⟩, rfl, q23⟩ (xp_S hbase hh hK hX hS) rfl rfl hl.1 rfl (lv_room (Nat.le_of_ble_eq_true rfl)) dX5_init_63 ⟨Nat.le_of_ble_eq_true rfl, Nat.le_of_ble_eq_true rfl⟩) hS (fun m34 H locs h hh hS => ?_)
  obtain ⟨g35, h⟩ := h
  refine xr_putRF (ci := 5) (C := RX5) (T := TX5) (N := 7) hx hb hL5 hown hK hh g35 (by decide) rfl 6 106 rfl rfl (by decide) (by decide) q24 (fun _ h9 => h9) tyX5 tyX5_ok nmX5 rfl hin rfl rfl rfl hS dX5_init_66 (fun H locs hh hS => ?_)
  obtain ⟨m36, em36⟩ : ∃ z : MM, z = sR m34 106 a0 (some a31) := ⟨_, rfl⟩
  rw [← em36] at hh
  replace h := h m36 em36
  exact (xe_v hx hb hr hlocks hbase hh hK hX hS h (Nat.le_of_ble_eq_true rfl) (Nat.le_of_ble_eq_true rfl) dX5_init_69)

set_option maxHeartbeats 4000000 in
set_option maxRecDepth 100000 in
theorem mt_X3_init (l : Launch) (G : GG) (base : Nat) {a0 : Nat} {p1 : Int32} {m0 : MM} {Q : MM → Prop} (h : wp_X3_init a0 p1 m0 Q) : Met l yX3_init wsX3_init ({ frames := 2, cells := 9, slots := 236, locals := 91 }) (va_Pc [.ref a0, .int p1] (SP G base m0)) (va_Qv Q (HB G base) (xA base)) 9 236 (xA base) := by
  refine Met.ofW (cc := cX3_init) (maxL := 2) (ret := none) (by decide) rfl ?_
  intro p e s m args below meth c s₁ B hml hv
  obtain ⟨rfl, hbase, hh, hK, hX⟩ := hv
  have C0 : BC p s m _ meth c G base RX3 cX3_init 2 none wsX3_init := ⟨B.exec, B.bytes, B.returns, hml, findClass_of_methodNamed B.named, atoms_spec (ws := wsX3_init) B.pre, B.notSynchronized, hK, hbase, hX⟩
  obtain ⟨hx, hb, hr, -, hown, hts, hlocks, -, -, -⟩ := id C0
  have hin : meth.name = "<init>" := (name_of_methodNamed B.named B.method).1
  have hS : va_S (xA base) s.heap s.heap [] := va_S.rf
  have hl := lv_entry ([.ref a0, .int p1]) (n := 2) (Nat.le_of_ble_eq_true rfl)
  rw [lg_entry_eq]
  generalize (lg_sl ([.ref a0, .int p1]) ++ List.replicate (2 - (lg_sl ([.ref a0, .int p1])).length) Slot.unset).toArray = ls at hl ⊢
  have hl : lv_has ls 2 [(0, .ref a0), (1, .int p1)] := hl
  unfold wp_X3_init at h
  have q1 : (Cond.methodLink RX3 3 objectInit).before _ s = true := hts _ (List.mem_cons_of_mem _ (List.mem_append_left _ (List.mem_append_left _ (List.mem_append_left _ (List.mem_append_left _ (List.mem_of_getElem? (i := 0) rfl))))))
  have q2 : (Cond.instanceMethod objectInit).before _ s = true := hts _ (List.mem_cons_of_mem _ (List.mem_append_left _ (List.mem_append_left _ (List.mem_append_left _ (List.mem_append_left _ (List.mem_of_getElem? (i := 1) rfl))))))
  have q3 : (Cond.code objectInit ⟨#[0xb1]⟩ 1 none).before _ s = true := hts _ (List.mem_cons_of_mem _ (List.mem_append_left _ (List.mem_append_left _ (List.mem_append_left _ (List.mem_append_left _ (List.mem_of_getElem? (i := 2) rfl))))))
  have hL0 : ∀ w ∈ u_ws RX0 TX0 3, w.before _ s = true := fun w h9 => hts w (List.mem_cons_of_mem _ (List.mem_append_left _ (List.mem_append_left _ (List.mem_append_right _ (h9)))))
  have q5 : (Cond.classLink RX3 9 RX0).before _ s = true := hts _ (List.mem_cons_of_mem _ (List.mem_append_left _ (List.mem_append_left _ (List.mem_append_left _ (List.mem_append_left _ (List.mem_of_getElem? (i := 3) rfl))))))
  have q6 : (Cond.instantiable RX0 3).before _ s = true := hts _ (List.mem_cons_of_mem _ (List.mem_append_left _ (List.mem_append_left _ (List.mem_append_left _ (List.mem_append_left _ (List.mem_of_getElem? (i := 4) rfl))))))
  have q7 : (Cond.initialized RX0).before _ s = true := hts _ (List.mem_cons_of_mem _ (List.mem_append_left _ (List.mem_append_left _ (List.mem_append_left _ (List.mem_append_left _ (List.mem_of_getElem? (i := 5) rfl))))))
  have q8 : (Cond.instanceMethod yX0_init).before _ s = true := hts _ (List.mem_cons_of_mem _ (List.mem_append_left _ (List.mem_append_left _ (List.mem_append_left _ (List.mem_append_left _ (List.mem_of_getElem? (i := 15) rfl))))))
  have hL3 : ∀ w ∈ u_ws RX3 TX3 5, w.before _ s = true := fun w h9 => hts w (List.mem_cons_of_mem _ (List.mem_append_left _ (List.mem_append_right _ (h9))))
  have q10 : (Cond.fieldLink RX3 12 "RollupStore$Series" "points" "LRollupStore$Points;").before _ s = true := hts _ (List.mem_cons_of_mem _ (List.mem_append_left _ (List.mem_append_left _ (List.mem_append_left _ (List.mem_append_left _ (List.mem_of_getElem? (i := 6) rfl))))))
  have hL2 : ∀ w ∈ u_ws RX2 TX2 3, w.before _ s = true := fun w h9 => hts w (List.mem_cons_of_mem _ (List.mem_append_right _ (h9)))
  have q12 : (Cond.classLink RX3 18 RX2).before _ s = true := hts _ (List.mem_cons_of_mem _ (List.mem_append_left _ (List.mem_append_left _ (List.mem_append_left _ (List.mem_append_left _ (List.mem_of_getElem? (i := 7) rfl))))))
  have q13 : (Cond.instantiable RX2 3).before _ s = true := hts _ (List.mem_cons_of_mem _ (List.mem_append_left _ (List.mem_append_left _ (List.mem_append_left _ (List.mem_append_left _ (List.mem_of_getElem? (i := 8) rfl))))))
  have q14 : (Cond.initialized RX2).before _ s = true := hts _ (List.mem_cons_of_mem _ (List.mem_append_left _ (List.mem_append_left _ (List.mem_append_left _ (List.mem_append_left _ (List.mem_of_getElem? (i := 9) rfl))))))
  have q15 : (Cond.methodLink RX3 20 yX2_init).before _ s = true := hts _ (List.mem_cons_of_mem _ (List.mem_append_left _ (List.mem_append_left _ (List.mem_append_left _ (List.mem_append_left _ (List.mem_of_getElem? (i := 21) rfl))))))
  have q16 : (Cond.instanceMethod yX2_init).before _ s = true := hts _ (List.mem_cons_of_mem _ (List.mem_append_left _ (List.mem_append_left _ (List.mem_append_left _ (List.mem_append_left _ (List.mem_of_getElem? (i := 22) rfl))))))
  have q17 : (Cond.fieldLink RX3 23 "RollupStore$Series" "minutes" "LRollupStore$Rollups;").before _ s = true := hts _ (List.mem_cons_of_mem _ (List.mem_append_left _ (List.mem_append_left _ (List.mem_append_left _ (List.mem_append_left _ (List.mem_of_getElem? (i := 10) rfl))))))
  have q18 : (Cond.fieldLink RX3 27 "RollupStore$Series" "hours" "LRollupStore$Rollups;").before _ s = true := hts _ (List.mem_cons_of_mem _ (List.mem_append_left _ (List.mem_append_left _ (List.mem_append_left _ (List.mem_append_left _ (List.mem_of_getElem? (i := 11) rfl))))))
  have q19 : (Cond.constant RX3 30 (86400)).before _ s = true := hts _ (List.mem_cons_of_mem _ (List.mem_append_left _ (List.mem_append_left _ (List.mem_append_left _ (List.mem_append_left _ (List.mem_of_getElem? (i := 12) rfl))))))
  have q20 : (Cond.fieldLink RX3 31 "RollupStore$Series" "days" "LRollupStore$Rollups;").before _ s = true := hts _ (List.mem_cons_of_mem _ (List.mem_append_left _ (List.mem_append_left _ (List.mem_append_left _ (List.mem_append_left _ (List.mem_of_getElem? (i := 13) rfl))))))
  have q21 : (Cond.fieldLink RX3 34 "RollupStore$Series" "kind" "I").before _ s = true := hts _ (List.mem_cons_of_mem _ (List.mem_append_left _ (List.mem_append_left _ (List.mem_append_left _ (List.mem_append_left _ (List.mem_of_getElem? (i := 14) rfl))))))
  refine lv_aload_n hx hb dX3_init_0 rfl (lv_at hl 0 rfl) ?_
  refine W.objInit hx hb hown q1 q2 q3 rfl (by rw [hml]; exact hl.1) rfl dX3_init_1 (Nat.le_of_ble_eq_true rfl) (Nat.le_of_ble_eq_true rfl) ?_
  refine W.eq (g2 := F0 m 4 ls []) rfl ?_
  refine lv_aload_n hx hb dX3_init_4 rfl (lv_at hl 0 rfl) ?_
  refine xr_new (ci := 0) (C := RX0) (T := TX0) (N := 3) hx hb hL0 tyX0 tyX0_ok hown q5 q6 q7 hK hh hS hbase (by decide) rfl xd_0 (Nat.le_of_ble_eq_true rfl) (Nat.le_of_ble_eq_true rfl) dX3_init_5 (fun a1 H ga1 gba1 hh hS => ?_)
  replace h := h a1 ga1
  obtain ⟨m2, em2⟩ : ∃ z : MM, z = nw m0 1 0 a1 := ⟨_, rfl⟩
  rw [← em2] at hh
  replace h := h m2 em2
  refine lv_dup hx hb dX3_init_8 rfl ?_
  refine xc_v (va_runIN (As := []) (rest := [.ref a1, .ref a0]) ⟨hx, hb, hml, hown, hts⟩ (mt_X0_init l G base h) ⟨va_cnB 0 hts gX3_init_X0_init_n11 rfl rfl rfl (hX.2.2.2.2.2.2.2.1 _ (List.mem_of_getElem? (i := 2) rfl)) q7 (by decide +kernel) ⟨Nat.le_of_ble_eq_true rfl, Nat.le_of_ble_eq_true rfl⟩, rfl, q8⟩ (xp_S hbase hh hK hX hS) rfl rfl hl.1 rfl (lv_room (Nat.le_of_ble_eq_true rfl)) dX3_init_9 ⟨Nat.le_of_ble_eq_true rfl, Nat.le_of_ble_eq_true rfl⟩) hS (fun m4 H locs h hh hS => ?_)
  obtain ⟨g5, h⟩ := h
  refine xr_putRF (ci := 3) (C := RX3) (T := TX3) (N := 5) hx hb hL3 hown hK hh g5 (by decide) rfl 1 61 rfl rfl (by decide) (by decide) q10 (fun _ h9 => h9) tyX3 tyX3_ok nmX3 rfl hin rfl rfl rfl hS dX3_init_12 (fun H locs hh hS => ?_)
  obtain ⟨m6, em6⟩ : ∃ z : MM, z = sR m4 61 a0 (some a1) := ⟨_, rfl⟩
  rw [← em6] at hh
  replace h := h m6 em6
  refine lv_aload_n hx hb dX3_init_15 rfl (lv_at hl 0 rfl) ?_
  refine xr_new (ci := 2) (C := RX2) (T := TX2) (N := 3) hx hb hL2 tyX2 tyX2_ok hown q12 q13 q14 hK hh hS hbase (by decide) rfl xd_2 (Nat.le_of_ble_eq_true rfl) (Nat.le_of_ble_eq_true rfl) dX3_init_16 (fun a7 H ga7 gba7 hh hS => ?_)
  replace h := h a7 ga7
  obtain ⟨m8, em8⟩ : ∃ z : MM, z = nw m6 3 0 a7 := ⟨_, rfl⟩
  rw [← em8] at hh
  replace h := h m8 em8
  refine lv_dup hx hb dX3_init_19 rfl ?_
  refine lv_bipush (v := 60) hx hb dX3_init_20 (by decide) ?_
  refine xc_v (va_runI (As := [.int (60 : Int32)]) (rest := [.ref a7, .ref a0]) ⟨hx, hb, hml, hown, hts⟩ (mt_X2_init l G base h) (cwI 1 hts gX3_init_X2_init rfl rfl rfl q14 q15 q16 rfl (by decide +kernel) ⟨Nat.le_of_ble_eq_true rfl, Nat.le_of_ble_eq_true rfl⟩) (xp_S hbase hh hK hX hS) rfl rfl hl.1 rfl (lv_room (Nat.le_of_ble_eq_true rfl)) dX3_init_22 ⟨Nat.le_of_ble_eq_true rfl, Nat.le_of_ble_eq_true rfl⟩) hS (fun m10 H locs h hh hS => ?_)
  obtain ⟨g11, h⟩ := h
  refine xr_putRF (ci := 3) (C := RX3) (T := TX3) (N := 5) hx hb hL3 hown hK hh g11 (by decide) rfl 2 62 rfl rfl (by decide) (by decide) q17 (fun _ h9 => h9) tyX3 tyX3_ok nmX3 rfl hin rfl rfl rfl hS dX3_init_25 (fun H locs hh hS => ?_)
  obtain ⟨m12, em12⟩ : ∃ z : MM, z = sR m10 62 a0 (some a7) := ⟨_, rfl⟩
  rw [← em12] at hh
  replace h := h m12 em12
  refine lv_aload_n hx hb dX3_init_28 rfl (lv_at hl 0 rfl) ?_
  refine xr_new (ci := 2) (C := RX2) (T := TX2) (N := 3) hx hb hL2 tyX2 tyX2_ok hown q12 q13 q14 hK hh hS hbase (by decide) rfl xd_2 (Nat.le_of_ble_eq_true rfl) (Nat.le_of_ble_eq_true rfl) dX3_init_29 (fun a13 H ga13 gba13 hh hS => ?_)
  replace h := h a13 ga13
  obtain ⟨m14, em14⟩ : ∃ z : MM, z = nw m12 3 0 a13 := ⟨_, rfl⟩
  rw [← em14] at hh
  replace h := h m14 em14
  refine lv_dup hx hb dX3_init_32 rfl ?_
  refine lv_sipush (v := 3600) hx hb dX3_init_33 (by decide) ?_
  refine xc_v (va_runI (As := [.int (3600 : Int32)]) (rest := [.ref a13, .ref a0]) ⟨hx, hb, hml, hown, hts⟩ (mt_X2_init l G base h) (cwI 1 hts gX3_init_X2_init rfl rfl rfl q14 q15 q16 rfl (by decide +kernel) ⟨Nat.le_of_ble_eq_true rfl, Nat.le_of_ble_eq_true rfl⟩) (xp_S hbase hh hK hX hS) rfl rfl hl.1 rfl (lv_room (Nat.le_of_ble_eq_true rfl)) dX3_init_36 ⟨Nat.le_of_ble_eq_true rfl, Nat.le_of_ble_eq_true rfl⟩) hS (fun m16 H locs h hh hS => ?_)
  obtain ⟨g17, h⟩ := h
  refine xr_putRF (ci := 3) (C := RX3) (T := TX3) (N := 5) hx hb hL3 hown hK hh g17 (by decide) rfl 3 63 rfl rfl (by decide) (by decide) q18 (fun _ h9 => h9) tyX3 tyX3_ok nmX3 rfl hin rfl rfl rfl hS dX3_init_39 (fun H locs hh hS => ?_)
  obtain ⟨m18, em18⟩ : ∃ z : MM, z = sR m16 63 a0 (some a13) := ⟨_, rfl⟩
  rw [← em18] at hh
  replace h := h m18 em18
  refine lv_aload_n hx hb dX3_init_42 rfl (lv_at hl 0 rfl) ?_
  refine xr_new (ci := 2) (C := RX2) (T := TX2) (N := 3) hx hb hL2 tyX2 tyX2_ok hown q12 q13 q14 hK hh hS hbase (by decide) rfl xd_2 (Nat.le_of_ble_eq_true rfl) (Nat.le_of_ble_eq_true rfl) dX3_init_43 (fun a19 H ga19 gba19 hh hS => ?_)
  replace h := h a19 ga19
  obtain ⟨m20, em20⟩ : ∃ z : MM, z = nw m18 3 0 a19 := ⟨_, rfl⟩
  rw [← em20] at hh
  replace h := h m20 em20
  refine lv_dup hx hb dX3_init_46 rfl ?_
  refine lv_ldc hx hb hown q19 dX3_init_47 ?_
  refine xc_v (va_runI (As := [.int (86400 : Int32)]) (rest := [.ref a19, .ref a0]) ⟨hx, hb, hml, hown, hts⟩ (mt_X2_init l G base h) (cwI 1 hts gX3_init_X2_init rfl rfl rfl q14 q15 q16 rfl (by decide +kernel) ⟨Nat.le_of_ble_eq_true rfl, Nat.le_of_ble_eq_true rfl⟩) (xp_S hbase hh hK hX hS) rfl rfl hl.1 rfl (lv_room (Nat.le_of_ble_eq_true rfl)) dX3_init_49 ⟨Nat.le_of_ble_eq_true rfl, Nat.le_of_ble_eq_true rfl⟩) hS (fun m22 H locs h hh hS => ?_)
  obtain ⟨g23, h⟩ := h
  refine xr_putRF (ci := 3) (C := RX3) (T := TX3) (N := 5) hx hb hL3 hown hK hh g23 (by decide) rfl 4 64 rfl rfl (by decide) (by decide) q20 (fun _ h9 => h9) tyX3 tyX3_ok nmX3 rfl hin rfl rfl rfl hS dX3_init_52 (fun H locs hh hS => ?_)
  obtain ⟨m24, em24⟩ : ∃ z : MM, z = sR m22 64 a0 (some a19) := ⟨_, rfl⟩
  rw [← em24] at hh
  replace h := h m24 em24
  refine lv_aload_n hx hb dX3_init_55 rfl (lv_at hl 0 rfl) ?_
  refine lv_iload_n hx hb dX3_init_56 rfl (lv_at hl 1 rfl) ?_
  obtain ⟨g25, h⟩ := h
  refine xr_putIF (ci := 3) (C := RX3) (T := TX3) (N := 5) hx hb hL3 hown hK hh g25 (by decide) rfl 0 60 rfl rfl (by decide) (by decide) q21 (fun _ h9 => h9) tyX3 tyX3_ok nmX3 rfl hin rfl rfl rfl hS dX3_init_57 (fun H locs hh hS => ?_)
  obtain ⟨m26, em26⟩ : ∃ z : MM, z = sI m24 60 a0 p1 := ⟨_, rfl⟩
  rw [← em26] at hh
  replace h := h m26 em26
  exact (xe_v hx hb hr hlocks hbase hh hK hX hS h (Nat.le_of_ble_eq_true rfl) (Nat.le_of_ble_eq_true rfl) dX3_init_60)

set_option maxHeartbeats 4000000 in
set_option maxRecDepth 100000 in
theorem mt_X5_addSeries (l : Launch) (hl9 : l.stackTraces = false) (G : GG) (base : Nat) {a0 : Nat} {p1 : Int32} {m0 : MM} {Q : Int32 → MM → Prop} {X : Nat → MM → Prop} (h : wp_X5_addSeries a0 p1 m0 Q X) : vx_Met l yX5_addSeries wsX5_addSeries ({ frames := 7, cells := 11, slots := 247, locals := 118 }) (va_Pc [.ref a0, .int p1] (SP G base m0)) (va_Qi Q (HB G base) (xA base)) (xX G base X) 11 247 (xA base) := by
  refine vx_ofW (cc := cX5_addSeries) (maxL := 2) (ret := (some .int)) (by decide) rfl ?_
  intro p e s m args below meth c s₁ B hml hout hv
  obtain ⟨rfl, hbase, hh, hK, hX⟩ := hv
  have C0 : BC p s m _ meth c G base RX5 cX5_addSeries 2 (some .int) wsX5_addSeries := ⟨B.exec, B.bytes, B.returns, hml, findClass_of_methodNamed B.named, atoms_spec (ws := wsX5_addSeries) B.pre, B.notSynchronized, hK, hbase, hX⟩
  obtain ⟨hx, hb, hr, -, hown, hts, hlocks, -, -, -⟩ := id C0
  have hS : va_S (xA base) s.heap s.heap [] := va_S.rf
  have hl := lv_entry ([.ref a0, .int p1]) (n := 2) (Nat.le_of_ble_eq_true rfl)
  rw [lg_entry_eq]
  generalize (lg_sl ([.ref a0, .int p1]) ++ List.replicate (2 - (lg_sl ([.ref a0, .int p1])).length) Slot.unset).toArray = ls at hl ⊢
  have hl : lv_has ls 2 [(0, .ref a0), (1, .int p1)] := hl
  unfold wp_X5_addSeries at h
  have hL5 : ∀ w ∈ u_ws RX5 TX5 7, w.before _ s = true := fun w h9 => hts w (List.mem_cons_of_mem _ (List.mem_append_left _ (List.mem_append_left _ (List.mem_append_left _ (List.mem_append_left _ (List.mem_append_left _ (List.mem_append_right _ (h9))))))))
  have q2 : (Cond.fieldLink RX5 43 "RollupStore" "howMany" "I").before _ s = true := hts _ (List.mem_cons_of_mem _ (List.mem_append_left _ (List.mem_append_left _ (List.mem_append_left _ (List.mem_append_left _ (List.mem_append_left _ (List.mem_append_left _ (List.mem_append_left _ (List.mem_of_getElem? (i := 2) rfl)))))))))
  have q3 : (Cond.fieldLink RX5 11 "RollupStore" "kept" "[LRollupStore$Series;").before _ s = true := hts _ (List.mem_cons_of_mem _ (List.mem_append_left _ (List.mem_append_left _ (List.mem_append_left _ (List.mem_append_left _ (List.mem_append_left _ (List.mem_append_left _ (List.mem_append_left _ (List.mem_of_getElem? (i := 3) rfl)))))))))
  have hL3 : ∀ w ∈ u_ws RX3 TX3 5, w.before _ s = true := fun w h9 => hts w (List.mem_cons_of_mem _ (List.mem_append_left _ (List.mem_append_left _ (List.mem_append_left _ (List.mem_append_left _ (List.mem_append_right _ (h9)))))))
  have q5 : (Cond.classLink RX5 9 RX3).before _ s = true := hts _ (List.mem_cons_of_mem _ (List.mem_append_left _ (List.mem_append_left _ (List.mem_append_left _ (List.mem_append_left _ (List.mem_append_left _ (List.mem_append_left _ (List.mem_append_left _ (List.mem_of_getElem? (i := 4) rfl)))))))))
  have q6 : (Cond.instantiable RX3 5).before _ s = true := hts _ (List.mem_cons_of_mem _ (List.mem_append_left _ (List.mem_append_left _ (List.mem_append_left _ (List.mem_append_left _ (List.mem_append_left _ (List.mem_append_left _ (List.mem_append_left _ (List.mem_of_getElem? (i := 5) rfl)))))))))
  have q7 : (Cond.initialized RX3).before _ s = true := hts _ (List.mem_cons_of_mem _ (List.mem_append_left _ (List.mem_append_left _ (List.mem_append_left _ (List.mem_append_left _ (List.mem_append_left _ (List.mem_append_left _ (List.mem_append_left _ (List.mem_of_getElem? (i := 6) rfl)))))))))
  have q8 : (Cond.methodLink RX5 54 yX3_init).before _ s = true := hts _ (List.mem_cons_of_mem _ (List.mem_append_left _ (List.mem_append_left _ (List.mem_append_left _ (List.mem_append_left _ (List.mem_append_left _ (List.mem_append_left _ (List.mem_append_left _ (List.mem_of_getElem? (i := 13) rfl)))))))))
  have q9 : (Cond.instanceMethod yX3_init).before _ s = true := hts _ (List.mem_cons_of_mem _ (List.mem_append_left _ (List.mem_append_left _ (List.mem_append_left _ (List.mem_append_left _ (List.mem_append_left _ (List.mem_append_left _ (List.mem_append_left _ (List.mem_of_getElem? (i := 14) rfl)))))))))
  have hW2 : ∀ w ∈ (vx_atS RX5 51 "java/lang/IllegalStateException" ["java/lang/RuntimeException", "java/lang/Exception"]).filter goodWord, w.before _ s = true := fun w h9 => hts w (List.mem_cons_of_mem _ (List.mem_append_left _ (List.mem_append_right _ (h9))))
  have q11 : (Cond.classLink RX5 47 "java/lang/IllegalStateException").before _ s = true := hts _ (List.mem_cons_of_mem _ (List.mem_append_left _ (List.mem_append_left _ (List.mem_append_left _ (List.mem_append_left _ (List.mem_append_left _ (List.mem_append_left _ (List.mem_append_left _ (List.mem_of_getElem? (i := 0) rfl)))))))))
  have q12 : (Cond.initialized "java/lang/IllegalStateException").before _ s = true := hts _ (List.mem_cons_of_mem _ (List.mem_append_left _ (List.mem_append_left _ (List.mem_append_left _ (List.mem_append_left _ (List.mem_append_left _ (List.mem_append_left _ (List.mem_append_left _ (List.mem_of_getElem? (i := 1) rfl)))))))))
  refine lv_iload_n hx hb dX5_addSeries_0 rfl (lv_at hl 1 rfl) ?_
  refine lv_iconst (v := 0) hx hb dX5_addSeries_1 (by decide) ?_
  refine lv_iconst (v := 1) hx hb dX5_addSeries_2 (by decide) ?_
  refine xt_v (vx_runS (As := [.int p1, .int (0 : Int32), .int (1 : Int32)]) (rest := []) ⟨hx, hb, hml, hown, hts⟩ (mt_X5_needRange l hl9 G base h) (va_cwS 3 hts gX5_addSeries_X5_needRange rfl rfl rfl (by decide +kernel) ⟨Nat.le_of_ble_eq_true rfl, Nat.le_of_ble_eq_true rfl⟩) (xp_S hbase hh hK hX hS) rfl rfl hl.1 rfl (lv_room (Nat.le_of_ble_eq_true rfl)) dX5_addSeries_3 ⟨Nat.le_of_ble_eq_true rfl, Nat.le_of_ble_eq_true rfl⟩) hS (fun k9 m9 H locs q9 ce h hh hS hc9 hv9 hcl9 => xe_out hout hlocks hbase hh hK hX hS h hc9 hv9 hcl9 (Nat.le_of_ble_eq_true rfl) (Nat.le_of_ble_eq_true rfl)) (fun m2 H locs h hh hS => ?_)
  refine lv_aload_n hx hb dX5_addSeries_6 rfl (lv_at hl 0 rfl) ?_
  obtain ⟨g3, h⟩ := h
  refine xr_getI (ci := 5) (C := RX5) (T := TX5) (N := 7) hx hb hL5 hown hK hh g3 (by decide) rfl 1 101 rfl rfl (by decide) (by decide) q2 (fun _ h9 => h9) dX5_addSeries_7 ?_
  refine lv_iconst (v := 4) hx hb dX5_addSeries_10 (by decide) ?_
  refine lv_icmp_lt (tgt := 24) hx hb dX5_addSeries_11 (by decide) (fun c4 => ?_) (fun c4 => ?_)
  · replace h := h.1 c4
    refine lv_aload_n hx hb dX5_addSeries_24 rfl (lv_at hl 0 rfl) ?_
    obtain ⟨g5, h⟩ := h
    obtain ⟨b6, eb6, h⟩ := h
    refine xr_getR (ci := 5) (C := RX5) (T := TX5) (N := 7) hx hb hL5 hown hK hh g5 (by decide) rfl 0 100 rfl rfl (by decide) (by decide) q3 (fun _ h9 => h9) eb6 dX5_addSeries_25 ?_
    refine lv_aload_n hx hb dX5_addSeries_28 rfl (lv_at hl 0 rfl) ?_
    obtain ⟨g7, h⟩ := h
    refine xr_getI (ci := 5) (C := RX5) (T := TX5) (N := 7) hx hb hL5 hown hK hh g7 (by decide) rfl 1 101 rfl rfl (by decide) (by decide) q2 (fun _ h9 => h9) dX5_addSeries_29 ?_
    refine xr_new (ci := 3) (C := RX3) (T := TX3) (N := 5) hx hb hL3 tyX3 tyX3_ok hown q5 q6 q7 hK hh hS hbase (by decide) rfl xd_3 (Nat.le_of_ble_eq_true rfl) (Nat.le_of_ble_eq_true rfl) dX5_addSeries_32 (fun a8 H ga8 gba8 hh hS => ?_)
    replace h := h a8 ga8
    obtain ⟨m9, em9⟩ : ∃ z : MM, z = nw m2 4 0 a8 := ⟨_, rfl⟩
    rw [← em9] at hh
    replace h := h m9 em9
    refine lv_dup hx hb dX5_addSeries_35 rfl ?_
    refine lv_iload_n hx hb dX5_addSeries_36 rfl (lv_at hl 1 rfl) ?_
    refine xc_v (va_runI (As := [.int p1]) (rest := [.ref a8, .int (mI m2 101 a0), .ref b6]) ⟨hx, hb, hml, hown, hts⟩ (mt_X3_init l G base h) (cwI 1 hts gX5_addSeries_X3_init rfl rfl rfl q7 q8 q9 rfl (by decide +kernel) ⟨Nat.le_of_ble_eq_true rfl, Nat.le_of_ble_eq_true rfl⟩) (xp_S hbase hh hK hX hS) rfl rfl hl.1 rfl (lv_room (Nat.le_of_ble_eq_true rfl)) dX5_addSeries_37 ⟨Nat.le_of_ble_eq_true rfl, Nat.le_of_ble_eq_true rfl⟩) hS (fun m11 H locs h hh hS => ?_)
    obtain ⟨g12, h⟩ := h
    obtain ⟨g13, h⟩ := h
    obtain ⟨g14, h⟩ := h
    refine xr_sast hx hb hK hh g12 hS g14 g13 dX5_addSeries_40 (fun H locs hh hS => ?_)
    obtain ⟨m15, em15⟩ : ∃ z : MM, z = sAR m11 b6 (va_up (mAR m11 b6) (mI m2 101 a0).toNatClampNeg (some a8)) := ⟨_, rfl⟩
    rw [← em15] at hh
    replace h := h m15 em15
    refine lv_aload_n hx hb dX5_addSeries_41 rfl (lv_at hl 0 rfl) ?_
    refine lv_dup hx hb dX5_addSeries_42 rfl ?_
    obtain ⟨g16, h⟩ := h
    refine xr_getI (ci := 5) (C := RX5) (T := TX5) (N := 7) hx hb hL5 hown hK hh g16 (by decide) rfl 1 101 rfl rfl (by decide) (by decide) q2 (fun _ h9 => h9) dX5_addSeries_43 ?_
    refine lv_iconst (v := 1) hx hb dX5_addSeries_46 (by decide) ?_
    refine lv_iadd hx hb dX5_addSeries_47 ?_
    obtain ⟨g17, h⟩ := h
    refine xr_putI (ci := 5) (C := RX5) (T := TX5) (N := 7) hx hb hL5 hown hK hh g17 (by decide) rfl 1 101 rfl rfl (by decide) (by decide) q2 (fun _ h9 => h9) tyX5 tyX5_ok nmX5 rfl rfl rfl hS dX5_addSeries_48 (fun H locs hh hS => ?_)
    obtain ⟨m18, em18⟩ : ∃ z : MM, z = sI m15 101 a0 ((mI m15 101 a0) + (1 : Int32)) := ⟨_, rfl⟩
    rw [← em18] at hh
    replace h := h m18 em18
    refine lv_aload_n hx hb dX5_addSeries_51 rfl (lv_at hl 0 rfl) ?_
    obtain ⟨g19, h⟩ := h
    refine xr_getI (ci := 5) (C := RX5) (T := TX5) (N := 7) hx hb hL5 hown hK hh g19 (by decide) rfl 1 101 rfl rfl (by decide) (by decide) q2 (fun _ h9 => h9) dX5_addSeries_52 ?_
    refine lv_iconst (v := 1) hx hb dX5_addSeries_55 (by decide) ?_
    refine lv_isub hx hb dX5_addSeries_56 ?_
    exact vx_ret (xe_i hx hb hr hlocks hbase hh hK hX hS h (Nat.le_of_ble_eq_true rfl) (Nat.le_of_ble_eq_true rfl) dX5_addSeries_57)
  · replace h := h.2 c4
    exact xe_throw2 (text := "there are 4 series") (is := 49) hx hb hl9 hout hlocks hbase hh hX hS hown q11 q12 hW2 (List.mem_of_getElem? (i := 0) rfl) (hl.1.trans hml.symm) dX5_addSeries_14 dX5_addSeries_17 dX5_addSeries_18 dX5_addSeries_20 dX5_addSeries_23 (Nat.le_of_ble_eq_true rfl) (Nat.le_of_ble_eq_true rfl) (Nat.le_of_ble_eq_true rfl) (Nat.le_of_ble_eq_true rfl) h (Nat.le_of_ble_eq_true rfl) (Nat.le_of_ble_eq_true rfl)

set_option maxHeartbeats 4000000 in
set_option maxRecDepth 100000 in
theorem mtq_X5_addSeries (l : Launch) (G : GG) (base : Nat) {a0 : Nat} {p1 : Int32} {m0 : MM} {Q : Int32 → MM → Prop} (h : wp_X5_addSeries a0 p1 m0 Q (fun _ _ => False)) : Met l yX5_addSeries wsX5_addSeries ({ frames := 7, cells := 10, slots := 241, locals := 118 }) (va_Pc [.ref a0, .int p1] (SP G base m0)) (va_Qi Q (HB G base) (xA base)) 10 241 (xA base) := by
  refine Met.ofW (cc := cX5_addSeries) (maxL := 2) (ret := (some .int)) (by decide) rfl ?_
  intro p e s m args below meth c s₁ B hml hv
  obtain ⟨rfl, hbase, hh, hK, hX⟩ := hv
  have C0 : BC p s m _ meth c G base RX5 cX5_addSeries 2 (some .int) wsX5_addSeries := ⟨B.exec, B.bytes, B.returns, hml, findClass_of_methodNamed B.named, atoms_spec (ws := wsX5_addSeries) B.pre, B.notSynchronized, hK, hbase, hX⟩
  obtain ⟨hx, hb, hr, -, hown, hts, hlocks, -, -, -⟩ := id C0
  have hS : va_S (xA base) s.heap s.heap [] := va_S.rf
  have hl := lv_entry ([.ref a0, .int p1]) (n := 2) (Nat.le_of_ble_eq_true rfl)
  rw [lg_entry_eq]
  generalize (lg_sl ([.ref a0, .int p1]) ++ List.replicate (2 - (lg_sl ([.ref a0, .int p1])).length) Slot.unset).toArray = ls at hl ⊢
  have hl : lv_has ls 2 [(0, .ref a0), (1, .int p1)] := hl
  unfold wp_X5_addSeries at h
  have hL5 : ∀ w ∈ u_ws RX5 TX5 7, w.before _ s = true := fun w h9 => hts w (List.mem_cons_of_mem _ (List.mem_append_left _ (List.mem_append_left _ (List.mem_append_left _ (List.mem_append_left _ (List.mem_append_left _ (List.mem_append_right _ (h9))))))))
  have q2 : (Cond.fieldLink RX5 43 "RollupStore" "howMany" "I").before _ s = true := hts _ (List.mem_cons_of_mem _ (List.mem_append_left _ (List.mem_append_left _ (List.mem_append_left _ (List.mem_append_left _ (List.mem_append_left _ (List.mem_append_left _ (List.mem_append_left _ (List.mem_of_getElem? (i := 2) rfl)))))))))
  have q3 : (Cond.fieldLink RX5 11 "RollupStore" "kept" "[LRollupStore$Series;").before _ s = true := hts _ (List.mem_cons_of_mem _ (List.mem_append_left _ (List.mem_append_left _ (List.mem_append_left _ (List.mem_append_left _ (List.mem_append_left _ (List.mem_append_left _ (List.mem_append_left _ (List.mem_of_getElem? (i := 3) rfl)))))))))
  have hL3 : ∀ w ∈ u_ws RX3 TX3 5, w.before _ s = true := fun w h9 => hts w (List.mem_cons_of_mem _ (List.mem_append_left _ (List.mem_append_left _ (List.mem_append_left _ (List.mem_append_left _ (List.mem_append_right _ (h9)))))))
  have q5 : (Cond.classLink RX5 9 RX3).before _ s = true := hts _ (List.mem_cons_of_mem _ (List.mem_append_left _ (List.mem_append_left _ (List.mem_append_left _ (List.mem_append_left _ (List.mem_append_left _ (List.mem_append_left _ (List.mem_append_left _ (List.mem_of_getElem? (i := 4) rfl)))))))))
  have q6 : (Cond.instantiable RX3 5).before _ s = true := hts _ (List.mem_cons_of_mem _ (List.mem_append_left _ (List.mem_append_left _ (List.mem_append_left _ (List.mem_append_left _ (List.mem_append_left _ (List.mem_append_left _ (List.mem_append_left _ (List.mem_of_getElem? (i := 5) rfl)))))))))
  have q7 : (Cond.initialized RX3).before _ s = true := hts _ (List.mem_cons_of_mem _ (List.mem_append_left _ (List.mem_append_left _ (List.mem_append_left _ (List.mem_append_left _ (List.mem_append_left _ (List.mem_append_left _ (List.mem_append_left _ (List.mem_of_getElem? (i := 6) rfl)))))))))
  have q8 : (Cond.methodLink RX5 54 yX3_init).before _ s = true := hts _ (List.mem_cons_of_mem _ (List.mem_append_left _ (List.mem_append_left _ (List.mem_append_left _ (List.mem_append_left _ (List.mem_append_left _ (List.mem_append_left _ (List.mem_append_left _ (List.mem_of_getElem? (i := 13) rfl)))))))))
  have q9 : (Cond.instanceMethod yX3_init).before _ s = true := hts _ (List.mem_cons_of_mem _ (List.mem_append_left _ (List.mem_append_left _ (List.mem_append_left _ (List.mem_append_left _ (List.mem_append_left _ (List.mem_append_left _ (List.mem_append_left _ (List.mem_of_getElem? (i := 14) rfl)))))))))
  refine lv_iload_n hx hb dX5_addSeries_0 rfl (lv_at hl 1 rfl) ?_
  refine lv_iconst (v := 0) hx hb dX5_addSeries_1 (by decide) ?_
  refine lv_iconst (v := 1) hx hb dX5_addSeries_2 (by decide) ?_
  refine xc_v (va_runS (As := [.int p1, .int (0 : Int32), .int (1 : Int32)]) (rest := []) ⟨hx, hb, hml, hown, hts⟩ (mtq_X5_needRange l G base h) (va_cwS 3 hts gX5_addSeries_X5_needRange rfl rfl rfl (by decide +kernel) ⟨Nat.le_of_ble_eq_true rfl, Nat.le_of_ble_eq_true rfl⟩) (xp_S hbase hh hK hX hS) rfl rfl hl.1 rfl (lv_room (Nat.le_of_ble_eq_true rfl)) dX5_addSeries_3 ⟨Nat.le_of_ble_eq_true rfl, Nat.le_of_ble_eq_true rfl⟩) hS (fun m2 H locs h hh hS => ?_)
  refine lv_aload_n hx hb dX5_addSeries_6 rfl (lv_at hl 0 rfl) ?_
  obtain ⟨g3, h⟩ := h
  refine xr_getI (ci := 5) (C := RX5) (T := TX5) (N := 7) hx hb hL5 hown hK hh g3 (by decide) rfl 1 101 rfl rfl (by decide) (by decide) q2 (fun _ h9 => h9) dX5_addSeries_7 ?_
  refine lv_iconst (v := 4) hx hb dX5_addSeries_10 (by decide) ?_
  refine lv_icmp_lt (tgt := 24) hx hb dX5_addSeries_11 (by decide) (fun c4 => ?_) (fun c4 => ?_)
  · replace h := h.1 c4
    refine lv_aload_n hx hb dX5_addSeries_24 rfl (lv_at hl 0 rfl) ?_
    obtain ⟨g5, h⟩ := h
    obtain ⟨b6, eb6, h⟩ := h
    refine xr_getR (ci := 5) (C := RX5) (T := TX5) (N := 7) hx hb hL5 hown hK hh g5 (by decide) rfl 0 100 rfl rfl (by decide) (by decide) q3 (fun _ h9 => h9) eb6 dX5_addSeries_25 ?_
    refine lv_aload_n hx hb dX5_addSeries_28 rfl (lv_at hl 0 rfl) ?_
    obtain ⟨g7, h⟩ := h
    refine xr_getI (ci := 5) (C := RX5) (T := TX5) (N := 7) hx hb hL5 hown hK hh g7 (by decide) rfl 1 101 rfl rfl (by decide) (by decide) q2 (fun _ h9 => h9) dX5_addSeries_29 ?_
    refine xr_new (ci := 3) (C := RX3) (T := TX3) (N := 5) hx hb hL3 tyX3 tyX3_ok hown q5 q6 q7 hK hh hS hbase (by decide) rfl xd_3 (Nat.le_of_ble_eq_true rfl) (Nat.le_of_ble_eq_true rfl) dX5_addSeries_32 (fun a8 H ga8 gba8 hh hS => ?_)
    replace h := h a8 ga8
    obtain ⟨m9, em9⟩ : ∃ z : MM, z = nw m2 4 0 a8 := ⟨_, rfl⟩
    rw [← em9] at hh
    replace h := h m9 em9
    refine lv_dup hx hb dX5_addSeries_35 rfl ?_
    refine lv_iload_n hx hb dX5_addSeries_36 rfl (lv_at hl 1 rfl) ?_
    refine xc_v (va_runI (As := [.int p1]) (rest := [.ref a8, .int (mI m2 101 a0), .ref b6]) ⟨hx, hb, hml, hown, hts⟩ (mt_X3_init l G base h) (cwI 1 hts gX5_addSeries_X3_init rfl rfl rfl q7 q8 q9 rfl (by decide +kernel) ⟨Nat.le_of_ble_eq_true rfl, Nat.le_of_ble_eq_true rfl⟩) (xp_S hbase hh hK hX hS) rfl rfl hl.1 rfl (lv_room (Nat.le_of_ble_eq_true rfl)) dX5_addSeries_37 ⟨Nat.le_of_ble_eq_true rfl, Nat.le_of_ble_eq_true rfl⟩) hS (fun m11 H locs h hh hS => ?_)
    obtain ⟨g12, h⟩ := h
    obtain ⟨g13, h⟩ := h
    obtain ⟨g14, h⟩ := h
    refine xr_sast hx hb hK hh g12 hS g14 g13 dX5_addSeries_40 (fun H locs hh hS => ?_)
    obtain ⟨m15, em15⟩ : ∃ z : MM, z = sAR m11 b6 (va_up (mAR m11 b6) (mI m2 101 a0).toNatClampNeg (some a8)) := ⟨_, rfl⟩
    rw [← em15] at hh
    replace h := h m15 em15
    refine lv_aload_n hx hb dX5_addSeries_41 rfl (lv_at hl 0 rfl) ?_
    refine lv_dup hx hb dX5_addSeries_42 rfl ?_
    obtain ⟨g16, h⟩ := h
    refine xr_getI (ci := 5) (C := RX5) (T := TX5) (N := 7) hx hb hL5 hown hK hh g16 (by decide) rfl 1 101 rfl rfl (by decide) (by decide) q2 (fun _ h9 => h9) dX5_addSeries_43 ?_
    refine lv_iconst (v := 1) hx hb dX5_addSeries_46 (by decide) ?_
    refine lv_iadd hx hb dX5_addSeries_47 ?_
    obtain ⟨g17, h⟩ := h
    refine xr_putI (ci := 5) (C := RX5) (T := TX5) (N := 7) hx hb hL5 hown hK hh g17 (by decide) rfl 1 101 rfl rfl (by decide) (by decide) q2 (fun _ h9 => h9) tyX5 tyX5_ok nmX5 rfl rfl rfl hS dX5_addSeries_48 (fun H locs hh hS => ?_)
    obtain ⟨m18, em18⟩ : ∃ z : MM, z = sI m15 101 a0 ((mI m15 101 a0) + (1 : Int32)) := ⟨_, rfl⟩
    rw [← em18] at hh
    replace h := h m18 em18
    refine lv_aload_n hx hb dX5_addSeries_51 rfl (lv_at hl 0 rfl) ?_
    obtain ⟨g19, h⟩ := h
    refine xr_getI (ci := 5) (C := RX5) (T := TX5) (N := 7) hx hb hL5 hown hK hh g19 (by decide) rfl 1 101 rfl rfl (by decide) (by decide) q2 (fun _ h9 => h9) dX5_addSeries_52 ?_
    refine lv_iconst (v := 1) hx hb dX5_addSeries_55 (by decide) ?_
    refine lv_isub hx hb dX5_addSeries_56 ?_
    exact (xe_i hx hb hr hlocks hbase hh hK hX hS h (Nat.le_of_ble_eq_true rfl) (Nat.le_of_ble_eq_true rfl) dX5_addSeries_57)
  · replace h := h.2 c4
    exact h.elim

set_option maxHeartbeats 4000000 in
set_option maxRecDepth 100000 in
theorem mt_X5_placeOfPoint (l : Launch) (hl9 : l.stackTraces = false) (G : GG) (base : Nat) {p1 : Nat} {p2 : Int32} {m0 : MM} {Q : Int32 → MM → Prop} {X : Nat → MM → Prop} (h : wp_X5_placeOfPoint p1 p2 m0 Q X) : vx_Met l yX5_placeOfPoint wsX5_placeOfPoint ({ frames := 6, cells := 1, slots := 6, locals := 96 }) (va_Pc [.ref p1, .int p2] (SP G base m0)) (va_Qi Q (HB G base) (xA base)) (xX G base X) 1 6 (xA base) := by
  refine vx_ofW (cc := cX5_placeOfPoint) (maxL := 3) (ret := (some .int)) (by decide) rfl ?_
  intro p e s m args below meth c s₁ B hml hout hv
  obtain ⟨rfl, hbase, hh, hK, hX⟩ := hv
  have C0 : BC p s m _ meth c G base RX5 cX5_placeOfPoint 3 (some .int) wsX5_placeOfPoint := ⟨B.exec, B.bytes, B.returns, hml, findClass_of_methodNamed B.named, atoms_spec (ws := wsX5_placeOfPoint) B.pre, B.notSynchronized, hK, hbase, hX⟩
  obtain ⟨hx, hb, hr, -, hown, hts, hlocks, -, -, -⟩ := id C0
  have hS : va_S (xA base) s.heap s.heap [] := va_S.rf
  have hl := lv_entry ([.ref p1, .int p2]) (n := 3) (Nat.le_of_ble_eq_true rfl)
  rw [lg_entry_eq]
  generalize (lg_sl ([.ref p1, .int p2]) ++ List.replicate (3 - (lg_sl ([.ref p1, .int p2])).length) Slot.unset).toArray = ls at hl ⊢
  have hl : lv_has ls 3 [(0, .ref p1), (1, .int p2)] := hl
  unfold wp_X5_placeOfPoint at h
  have hL3 : ∀ w ∈ u_ws RX3 TX3 5, w.before _ s = true := fun w h9 => hts w (List.mem_cons_of_mem _ (List.mem_append_left _ (List.mem_append_left _ (List.mem_append_right _ (h9)))))
  have q2 : (Cond.fieldLink RX5 91 "RollupStore$Series" "points" "LRollupStore$Points;").before _ s = true := hts _ (List.mem_cons_of_mem _ (List.mem_append_left _ (List.mem_append_left _ (List.mem_append_left _ (List.mem_of_getElem? (i := 2) rfl)))))
  have hW2 : ∀ w ∈ (vx_atS RX5 51 "java/lang/IllegalStateException" ["java/lang/RuntimeException", "java/lang/Exception"]).filter goodWord, w.before _ s = true := fun w h9 => hts w (List.mem_cons_of_mem _ (List.mem_append_right _ (h9)))
  have q4 : (Cond.classLink RX5 47 "java/lang/IllegalStateException").before _ s = true := hts _ (List.mem_cons_of_mem _ (List.mem_append_left _ (List.mem_append_left _ (List.mem_append_left _ (List.mem_of_getElem? (i := 0) rfl)))))
  have q5 : (Cond.initialized "java/lang/IllegalStateException").before _ s = true := hts _ (List.mem_cons_of_mem _ (List.mem_append_left _ (List.mem_append_left _ (List.mem_append_left _ (List.mem_of_getElem? (i := 1) rfl)))))
  refine lv_aload_n hx hb dX5_placeOfPoint_0 rfl (lv_at hl 0 rfl) ?_
  obtain ⟨g1, h⟩ := h
  obtain ⟨b2, eb2, h⟩ := h
  refine xr_getR (ci := 3) (C := RX3) (T := TX3) (N := 5) hx hb hL3 hown hK hh g1 (by decide) rfl 1 61 rfl rfl (by decide) (by decide) q2 (fun _ h9 => h9) eb2 dX5_placeOfPoint_1 ?_
  refine lv_iload_n hx hb dX5_placeOfPoint_4 rfl (lv_at hl 1 rfl) ?_
  obtain ⟨g3, h⟩ := h
  refine xc_i (va_runV (As := [.int p2]) (rest := []) ⟨hx, hb, hml, hown, hts⟩ (mt_X0_placeFrom l G base h) (cwV 1 hts gX5_placeOfPoint_X0_placeFrom rfl rfl rfl (by decide +kernel) ⟨Nat.le_of_ble_eq_true rfl, Nat.le_of_ble_eq_true rfl⟩) (xp_V hbase hh hK hX hS (ci := 0) g3 (by decide) rfl) rfl rfl hl.1 rfl (lv_room (Nat.le_of_ble_eq_true rfl)) dX5_placeOfPoint_5 ⟨Nat.le_of_ble_eq_true rfl, Nat.le_of_ble_eq_true rfl⟩) hS (fun r4 m5 H locs h hh hS => ?_)
  refine lv_istore_n (lv' := [(2, .int r4), (0, .ref p1), (1, .int p2)]) hx hb dX5_placeOfPoint_8 rfl hl (by decide) rfl (fun ls hl => ?_)
  refine lv_aload_n hx hb dX5_placeOfPoint_9 rfl (lv_at hl 1 rfl) ?_
  obtain ⟨g6, h⟩ := h
  obtain ⟨b7, eb7, h⟩ := h
  refine xr_getR (ci := 3) (C := RX3) (T := TX3) (N := 5) hx hb hL3 hown hK hh g6 (by decide) rfl 1 61 rfl rfl (by decide) (by decide) q2 (fun _ h9 => h9) eb7 dX5_placeOfPoint_10 ?_
  refine lv_iload_n hx hb dX5_placeOfPoint_13 rfl (lv_at hl 0 rfl) ?_
  refine lv_iload_n hx hb dX5_placeOfPoint_14 rfl (lv_at hl 2 rfl) ?_
  obtain ⟨g8, h⟩ := h
  refine xc_i (va_runV (As := [.int r4, .int p2]) (rest := []) ⟨hx, hb, hml, hown, hts⟩ (mt_X0_isAt l G base h) (cwV 2 hts gX5_placeOfPoint_X0_isAt rfl rfl rfl (by decide +kernel) ⟨Nat.le_of_ble_eq_true rfl, Nat.le_of_ble_eq_true rfl⟩) (xp_V hbase hh hK hX hS (ci := 0) g8 (by decide) rfl) rfl rfl hl.1 rfl (lv_room (Nat.le_of_ble_eq_true rfl)) dX5_placeOfPoint_15 ⟨Nat.le_of_ble_eq_true rfl, Nat.le_of_ble_eq_true rfl⟩) hS (fun r9 m10 H locs h hh hS => ?_)
  refine lv_if_ne (tgt := 31) hx hb dX5_placeOfPoint_18 (by decide) (fun c11 => ?_) (fun c11 => ?_)
  · replace h := h.1 c11
    refine lv_iload_n hx hb dX5_placeOfPoint_31 rfl (lv_at hl 0 rfl) ?_
    exact vx_ret (xe_i hx hb hr hlocks hbase hh hK hX hS h (Nat.le_of_ble_eq_true rfl) (Nat.le_of_ble_eq_true rfl) dX5_placeOfPoint_32)
  · replace h := h.2 c11
    exact xe_throw2 (text := "there is no point at this time") (is := 254) hx hb hl9 hout hlocks hbase hh hX hS hown q4 q5 hW2 (List.mem_of_getElem? (i := 11) rfl) (hl.1.trans hml.symm) dX5_placeOfPoint_21 dX5_placeOfPoint_24 dX5_placeOfPoint_25 dX5_placeOfPoint_27 dX5_placeOfPoint_30 (Nat.le_of_ble_eq_true rfl) (Nat.le_of_ble_eq_true rfl) (Nat.le_of_ble_eq_true rfl) (Nat.le_of_ble_eq_true rfl) h (Nat.le_of_ble_eq_true rfl) (Nat.le_of_ble_eq_true rfl)

set_option maxHeartbeats 4000000 in
set_option maxRecDepth 100000 in
theorem mtq_X5_placeOfPoint (l : Launch) (G : GG) (base : Nat) {p1 : Nat} {p2 : Int32} {m0 : MM} {Q : Int32 → MM → Prop} (h : wp_X5_placeOfPoint p1 p2 m0 Q (fun _ _ => False)) : Met l yX5_placeOfPoint wsX5_placeOfPoint ({ frames := 6, cells := 0, slots := 0, locals := 96 }) (va_Pc [.ref p1, .int p2] (SP G base m0)) (va_Qi Q (HB G base) (xA base)) 0 0 (xA base) := by
  refine Met.ofW (cc := cX5_placeOfPoint) (maxL := 3) (ret := (some .int)) (by decide) rfl ?_
  intro p e s m args below meth c s₁ B hml hv
  obtain ⟨rfl, hbase, hh, hK, hX⟩ := hv
  have C0 : BC p s m _ meth c G base RX5 cX5_placeOfPoint 3 (some .int) wsX5_placeOfPoint := ⟨B.exec, B.bytes, B.returns, hml, findClass_of_methodNamed B.named, atoms_spec (ws := wsX5_placeOfPoint) B.pre, B.notSynchronized, hK, hbase, hX⟩
  obtain ⟨hx, hb, hr, -, hown, hts, hlocks, -, -, -⟩ := id C0
  have hS : va_S (xA base) s.heap s.heap [] := va_S.rf
  have hl := lv_entry ([.ref p1, .int p2]) (n := 3) (Nat.le_of_ble_eq_true rfl)
  rw [lg_entry_eq]
  generalize (lg_sl ([.ref p1, .int p2]) ++ List.replicate (3 - (lg_sl ([.ref p1, .int p2])).length) Slot.unset).toArray = ls at hl ⊢
  have hl : lv_has ls 3 [(0, .ref p1), (1, .int p2)] := hl
  unfold wp_X5_placeOfPoint at h
  have hL3 : ∀ w ∈ u_ws RX3 TX3 5, w.before _ s = true := fun w h9 => hts w (List.mem_cons_of_mem _ (List.mem_append_left _ (List.mem_append_left _ (List.mem_append_right _ (h9)))))
  have q2 : (Cond.fieldLink RX5 91 "RollupStore$Series" "points" "LRollupStore$Points;").before _ s = true := hts _ (List.mem_cons_of_mem _ (List.mem_append_left _ (List.mem_append_left _ (List.mem_append_left _ (List.mem_of_getElem? (i := 2) rfl)))))
  refine lv_aload_n hx hb dX5_placeOfPoint_0 rfl (lv_at hl 0 rfl) ?_
  obtain ⟨g1, h⟩ := h
  obtain ⟨b2, eb2, h⟩ := h
  refine xr_getR (ci := 3) (C := RX3) (T := TX3) (N := 5) hx hb hL3 hown hK hh g1 (by decide) rfl 1 61 rfl rfl (by decide) (by decide) q2 (fun _ h9 => h9) eb2 dX5_placeOfPoint_1 ?_
  refine lv_iload_n hx hb dX5_placeOfPoint_4 rfl (lv_at hl 1 rfl) ?_
  obtain ⟨g3, h⟩ := h
  refine xc_i (va_runV (As := [.int p2]) (rest := []) ⟨hx, hb, hml, hown, hts⟩ (mt_X0_placeFrom l G base h) (cwV 1 hts gX5_placeOfPoint_X0_placeFrom rfl rfl rfl (by decide +kernel) ⟨Nat.le_of_ble_eq_true rfl, Nat.le_of_ble_eq_true rfl⟩) (xp_V hbase hh hK hX hS (ci := 0) g3 (by decide) rfl) rfl rfl hl.1 rfl (lv_room (Nat.le_of_ble_eq_true rfl)) dX5_placeOfPoint_5 ⟨Nat.le_of_ble_eq_true rfl, Nat.le_of_ble_eq_true rfl⟩) hS (fun r4 m5 H locs h hh hS => ?_)
  refine lv_istore_n (lv' := [(2, .int r4), (0, .ref p1), (1, .int p2)]) hx hb dX5_placeOfPoint_8 rfl hl (by decide) rfl (fun ls hl => ?_)
  refine lv_aload_n hx hb dX5_placeOfPoint_9 rfl (lv_at hl 1 rfl) ?_
  obtain ⟨g6, h⟩ := h
  obtain ⟨b7, eb7, h⟩ := h
  refine xr_getR (ci := 3) (C := RX3) (T := TX3) (N := 5) hx hb hL3 hown hK hh g6 (by decide) rfl 1 61 rfl rfl (by decide) (by decide) q2 (fun _ h9 => h9) eb7 dX5_placeOfPoint_10 ?_
  refine lv_iload_n hx hb dX5_placeOfPoint_13 rfl (lv_at hl 0 rfl) ?_
  refine lv_iload_n hx hb dX5_placeOfPoint_14 rfl (lv_at hl 2 rfl) ?_
  obtain ⟨g8, h⟩ := h
  refine xc_i (va_runV (As := [.int r4, .int p2]) (rest := []) ⟨hx, hb, hml, hown, hts⟩ (mt_X0_isAt l G base h) (cwV 2 hts gX5_placeOfPoint_X0_isAt rfl rfl rfl (by decide +kernel) ⟨Nat.le_of_ble_eq_true rfl, Nat.le_of_ble_eq_true rfl⟩) (xp_V hbase hh hK hX hS (ci := 0) g8 (by decide) rfl) rfl rfl hl.1 rfl (lv_room (Nat.le_of_ble_eq_true rfl)) dX5_placeOfPoint_15 ⟨Nat.le_of_ble_eq_true rfl, Nat.le_of_ble_eq_true rfl⟩) hS (fun r9 m10 H locs h hh hS => ?_)
  refine lv_if_ne (tgt := 31) hx hb dX5_placeOfPoint_18 (by decide) (fun c11 => ?_) (fun c11 => ?_)
  · replace h := h.1 c11
    refine lv_iload_n hx hb dX5_placeOfPoint_31 rfl (lv_at hl 0 rfl) ?_
    exact (xe_i hx hb hr hlocks hbase hh hK hX hS h (Nat.le_of_ble_eq_true rfl) (Nat.le_of_ble_eq_true rfl) dX5_placeOfPoint_32)
  · replace h := h.2 c11
    exact h.elim

set_option maxHeartbeats 4000000 in
set_option maxRecDepth 100000 in
theorem mt_X5_valueAt (l : Launch) (hl9 : l.stackTraces = false) (G : GG) (base : Nat) {a0 : Nat} {p1 : Int32} {p2 : Int32} {m0 : MM} {Q : Int32 → MM → Prop} {X : Nat → MM → Prop} (h : wp_X5_valueAt a0 p1 p2 m0 Q X) : vx_Met l yX5_valueAt wsX5_valueAt ({ frames := 7, cells := 2, slots := 12, locals := 118 }) (va_Pc [.ref a0, .int p1, .int p2] (SP G base m0)) (va_Qi Q (HB G base) (xA base)) (xX G base X) 2 12 (xA base) := by
  refine vx_ofW (cc := cX5_valueAt) (maxL := 4) (ret := (some .int)) (by decide) rfl ?_
  intro p e s m args below meth c s₁ B hml hout hv
  obtain ⟨rfl, hbase, hh, hK, hX⟩ := hv
  have C0 : BC p s m _ meth c G base RX5 cX5_valueAt 4 (some .int) wsX5_valueAt := ⟨B.exec, B.bytes, B.returns, hml, findClass_of_methodNamed B.named, atoms_spec (ws := wsX5_valueAt) B.pre, B.notSynchronized, hK, hbase, hX⟩
  obtain ⟨hx, hb, hr, -, hown, hts, hlocks, -, -, -⟩ := id C0
  have hS : va_S (xA base) s.heap s.heap [] := va_S.rf
  have hl := lv_entry ([.ref a0, .int p1, .int p2]) (n := 4) (Nat.le_of_ble_eq_true rfl)
  rw [lg_entry_eq]
  generalize (lg_sl ([.ref a0, .int p1, .int p2]) ++ List.replicate (4 - (lg_sl ([.ref a0, .int p1, .int p2])).length) Slot.unset).toArray = ls at hl ⊢
  have hl : lv_has ls 4 [(0, .ref a0), (1, .int p1), (2, .int p2)] := hl
  unfold wp_X5_valueAt at h
  have hL3 : ∀ w ∈ u_ws RX3 TX3 5, w.before _ s = true := fun w h9 => hts w (List.mem_cons_of_mem _ (List.mem_append_left _ (List.mem_append_left _ (List.mem_append_left _ (List.mem_append_left _ (List.mem_append_right _ (h9)))))))
  have q2 : (Cond.fieldLink RX5 91 "RollupStore$Series" "points" "LRollupStore$Points;").before _ s = true := hts _ (List.mem_cons_of_mem _ (List.mem_append_left _ (List.mem_append_left _ (List.mem_append_left _ (List.mem_append_left _ (List.mem_append_left _ (List.mem_append_left _ (List.mem_of_getElem? (i := 0) rfl))))))))
  have hL0 : ∀ w ∈ u_ws RX0 TX0 3, w.before _ s = true := fun w h9 => hts w (List.mem_cons_of_mem _ (List.mem_append_left _ (List.mem_append_left _ (List.mem_append_left _ (List.mem_append_right _ (h9))))))
  have q4 : (Cond.fieldLink RX5 95 "RollupStore$Points" "values" "[I").before _ s = true := hts _ (List.mem_cons_of_mem _ (List.mem_append_left _ (List.mem_append_left _ (List.mem_append_left _ (List.mem_append_left _ (List.mem_append_left _ (List.mem_append_left _ (List.mem_of_getElem? (i := 1) rfl))))))))
  refine lv_aload_n hx hb dX5_valueAt_0 rfl (lv_at hl 0 rfl) ?_
  refine lv_iload_n hx hb dX5_valueAt_1 rfl (lv_at hl 1 rfl) ?_
  obtain ⟨g1, h⟩ := h
  refine xt_q (vx_runV (As := [.int p1]) (rest := []) ⟨hx, hb, hml, hown, hts⟩ (mt_X5_seriesAt l hl9 G base h) (cwV 1 hts gX5_valueAt_X5_seriesAt rfl rfl rfl (by decide +kernel) ⟨Nat.le_of_ble_eq_true rfl, Nat.le_of_ble_eq_true rfl⟩) (xp_V hbase hh hK hX hS (ci := 5) g1 (by decide) rfl) rfl rfl hl.1 rfl (lv_room (Nat.le_of_ble_eq_true rfl)) dX5_valueAt_2 ⟨Nat.le_of_ble_eq_true rfl, Nat.le_of_ble_eq_true rfl⟩) hS (fun k9 m9 H locs q9 ce h hh hS hc9 hv9 hcl9 => xe_out hout hlocks hbase hh hK hX hS h hc9 hv9 hcl9 (Nat.le_of_ble_eq_true rfl) (Nat.le_of_ble_eq_true rfl)) (fun r2 m3 H locs h hh hS => ?_)
  obtain ⟨b4, eb4, h⟩ := h
  rw [eb4]
  refine W.eq (g2 := F0 m 5 ls [.ref b4]) rfl ?_
  refine lv_astore_n (lv' := [(3, .ref b4), (0, .ref a0), (1, .int p1), (2, .int p2)]) hx hb dX5_valueAt_5 rfl hl (by decide) rfl (fun ls hl => ?_)
  refine lv_aload_n hx hb dX5_valueAt_6 rfl (lv_at hl 0 rfl) ?_
  obtain ⟨g5, h⟩ := h
  obtain ⟨b6, eb6, h⟩ := h
  refine xr_getR (ci := 3) (C := RX3) (T := TX3) (N := 5) hx hb hL3 hown hK hh g5 (by decide) rfl 1 61 rfl rfl (by decide) (by decide) q2 (fun _ h9 => h9) eb6 dX5_valueAt_7 ?_
  obtain ⟨g7, h⟩ := h
  obtain ⟨b8, eb8, h⟩ := h
  refine xr_getR (ci := 0) (C := RX0) (T := TX0) (N := 3) hx hb hL0 hown hK hh g7 (by decide) rfl 1 1 rfl rfl (by decide) (by decide) q4 (fun _ h9 => h9) eb8 dX5_valueAt_10 ?_
  refine lv_aload_n hx hb dX5_valueAt_13 rfl (lv_at hl 0 rfl) ?_
  refine lv_iload_n hx hb dX5_valueAt_14 rfl (lv_at hl 3 rfl) ?_
  refine xt_i (vx_runS (As := [.ref b4, .int p2]) (rest := [.ref b8]) ⟨hx, hb, hml, hown, hts⟩ (mt_X5_placeOfPoint l hl9 G base h) (va_cwS 2 hts gX5_valueAt_X5_placeOfPoint rfl rfl rfl (by decide +kernel) ⟨Nat.le_of_ble_eq_true rfl, Nat.le_of_ble_eq_true rfl⟩) (xp_S hbase hh hK hX hS) rfl rfl hl.1 rfl (lv_room (Nat.le_of_ble_eq_true rfl)) dX5_valueAt_15 ⟨Nat.le_of_ble_eq_true rfl, Nat.le_of_ble_eq_true rfl⟩) hS (fun k9 m9 H locs q9 ce h hh hS hc9 hv9 hcl9 => xe_out hout hlocks hbase hh hK hX hS h hc9 hv9 hcl9 (Nat.le_of_ble_eq_true rfl) (Nat.le_of_ble_eq_true rfl)) (fun r9 m10 H locs h hh hS => ?_)
  obtain ⟨g11, h⟩ := h
  obtain ⟨g12, h⟩ := h
  refine xr_iald hx hb hK hh g11 g12 dX5_valueAt_18 ?_
  exact vx_ret (xe_i hx hb hr hlocks hbase hh hK hX hS h (Nat.le_of_ble_eq_true rfl) (Nat.le_of_ble_eq_true rfl) dX5_valueAt_19)

set_option maxHeartbeats 4000000 in
set_option maxRecDepth 100000 in
theorem mtq_X5_valueAt (l : Launch) (G : GG) (base : Nat) {a0 : Nat} {p1 : Int32} {p2 : Int32} {m0 : MM} {Q : Int32 → MM → Prop} (h : wp_X5_valueAt a0 p1 p2 m0 Q (fun _ _ => False)) : Met l yX5_valueAt wsX5_valueAt ({ frames := 7, cells := 0, slots := 0, locals := 118 }) (va_Pc [.ref a0, .int p1, .int p2] (SP G base m0)) (va_Qi Q (HB G base) (xA base)) 0 0 (xA base) := by
  refine Met.ofW (cc := cX5_valueAt) (maxL := 4) (ret := (some .int)) (by decide) rfl ?_
  intro p e s m args below meth c s₁ B hml hv
  obtain ⟨rfl, hbase, hh, hK, hX⟩ := hv
  have C0 : BC p s m _ meth c G base RX5 cX5_valueAt 4 (some .int) wsX5_valueAt := ⟨B.exec, B.bytes, B.returns, hml, findClass_of_methodNamed B.named, atoms_spec (ws := wsX5_valueAt) B.pre, B.notSynchronized, hK, hbase, hX⟩
  obtain ⟨hx, hb, hr, -, hown, hts, hlocks, -, -, -⟩ := id C0
  have hS : va_S (xA base) s.heap s.heap [] := va_S.rf
  have hl := lv_entry ([.ref a0, .int p1, .int p2]) (n := 4) (Nat.le_of_ble_eq_true rfl)
  rw [lg_entry_eq]
  generalize (lg_sl ([.ref a0, .int p1, .int p2]) ++ List.replicate (4 - (lg_sl ([.ref a0, .int p1, .int p2])).length) Slot.unset).toArray = ls at hl ⊢
  have hl : lv_has ls 4 [(0, .ref a0), (1, .int p1), (2, .int p2)] := hl
  unfold wp_X5_valueAt at h
  have hL3 : ∀ w ∈ u_ws RX3 TX3 5, w.before _ s = true := fun w h9 => hts w (List.mem_cons_of_mem _ (List.mem_append_left _ (List.mem_append_left _ (List.mem_append_left _ (List.mem_append_left _ (List.mem_append_right _ (h9)))))))
  have q2 : (Cond.fieldLink RX5 91 "RollupStore$Series" "points" "LRollupStore$Points;").before _ s = true := hts _ (List.mem_cons_of_mem _ (List.mem_append_left _ (List.mem_append_left _ (List.mem_append_left _ (List.mem_append_left _ (List.mem_append_left _ (List.mem_append_left _ (List.mem_of_getElem? (i := 0) rfl))))))))
  have hL0 : ∀ w ∈ u_ws RX0 TX0 3, w.before _ s = true := fun w h9 => hts w (List.mem_cons_of_mem _ (List.mem_append_left _ (List.mem_append_left _ (List.mem_append_left _ (List.mem_append_right _ (h9))))))
  have q4 : (Cond.fieldLink RX5 95 "RollupStore$Points" "values" "[I").before _ s = true := hts _ (List.mem_cons_of_mem _ (List.mem_append_left _ (List.mem_append_left _ (List.mem_append_left _ (List.mem_append_left _ (List.mem_append_left _ (List.mem_append_left _ (List.mem_of_getElem? (i := 1) rfl))))))))
  refine lv_aload_n hx hb dX5_valueAt_0 rfl (lv_at hl 0 rfl) ?_
  refine lv_iload_n hx hb dX5_valueAt_1 rfl (lv_at hl 1 rfl) ?_
  obtain ⟨g1, h⟩ := h
  refine xc_q (va_runV (As := [.int p1]) (rest := []) ⟨hx, hb, hml, hown, hts⟩ (mtq_X5_seriesAt l G base h) (cwV 1 hts gX5_valueAt_X5_seriesAt rfl rfl rfl (by decide +kernel) ⟨Nat.le_of_ble_eq_true rfl, Nat.le_of_ble_eq_true rfl⟩) (xp_V hbase hh hK hX hS (ci := 5) g1 (by decide) rfl) rfl rfl hl.1 rfl (lv_room (Nat.le_of_ble_eq_true rfl)) dX5_valueAt_2 ⟨Nat.le_of_ble_eq_true rfl, Nat.le_of_ble_eq_true rfl⟩) hS (fun r2 m3 H locs h hh hS => ?_)
  obtain ⟨b4, eb4, h⟩ := h
  rw [eb4]
  refine W.eq (g2 := F0 m 5 ls [.ref b4]) rfl ?_
  refine lv_astore_n (lv' := [(3, .ref b4), (0, .ref a0), (1, .int p1), (2, .int p2)]) hx hb dX5_valueAt_5 rfl hl (by decide) rfl (fun ls hl => ?_)
  refine lv_aload_n hx hb dX5_valueAt_6 rfl (lv_at hl 0 rfl) ?_
  obtain ⟨g5, h⟩ := h
  obtain ⟨b6, eb6, h⟩ := h
  refine xr_getR (ci := 3) (C := RX3) (T := TX3) (N := 5) hx hb hL3 hown hK hh g5 (by decide) rfl 1 61 rfl rfl (by decide) (by decide) q2 (fun _ h9 => h9) eb6 dX5_valueAt_7 ?_
  obtain ⟨g7, h⟩ := h
  obtain ⟨b8, eb8, h⟩ := h
  refine xr_getR (ci := 0) (C := RX0) (T := TX0) (N := 3) hx hb hL0 hown hK hh g7 (by decide) rfl 1 1 rfl rfl (by decide) (by decide) q4 (fun _ h9 => h9) eb8 dX5_valueAt_10 ?_
  refine lv_aload_n hx hb dX5_valueAt_13 rfl (lv_at hl 0 rfl) ?_
  refine lv_iload_n hx hb dX5_valueAt_14 rfl (lv_at hl 3 rfl) ?_
  refine xc_i (va_runS (As := [.ref b4, .int p2]) (rest := [.ref b8]) ⟨hx, hb, hml, hown, hts⟩ (mtq_X5_placeOfPoint l G base h) (va_cwS 2 hts gX5_valueAt_X5_placeOfPoint rfl rfl rfl (by decide +kernel) ⟨Nat.le_of_ble_eq_true rfl, Nat.le_of_ble_eq_true rfl⟩) (xp_S hbase hh hK hX hS) rfl rfl hl.1 rfl (lv_room (Nat.le_of_ble_eq_true rfl)) dX5_valueAt_15 ⟨Nat.le_of_ble_eq_true rfl, Nat.le_of_ble_eq_true rfl⟩) hS (fun r9 m10 H locs h hh hS => ?_)
  obtain ⟨g11, h⟩ := h
  obtain ⟨g12, h⟩ := h
  refine xr_iald hx hb hK hh g11 g12 dX5_valueAt_18 ?_
  exact (xe_i hx hb hr hlocks hbase hh hK hX hS h (Nat.le_of_ble_eq_true rfl) (Nat.le_of_ble_eq_true rfl) dX5_valueAt_19)

set_option maxHeartbeats 4000000 in
set_option maxRecDepth 100000 in
theorem mt_X5_isPoint (l : Launch) (G : GG) (base : Nat) {a0 : Nat} {p1 : Nat} {p2 : Int32} {p3 : Int32} {m0 : MM} {Q : Int32 → MM → Prop} (h : wp_X5_isPoint a0 p1 p2 p3 m0 Q) : Met l yX5_isPoint wsX5_isPoint ({ frames := 0, cells := 0, slots := 0, locals := 8 }) (va_Pc [.ref a0, .ref p1, .int p2, .int p3] (SP G base m0)) (va_Qi Q (HB G base) (xA base)) 0 0 (xA base) := by
  refine Met.ofW (cc := cX5_isPoint) (maxL := 5) (ret := (some .boolean)) (by decide) rfl ?_
  intro p e s m args below meth c s₁ B hml hv
  obtain ⟨rfl, hbase, hh, hK, hX⟩ := hv
  have C0 : BC p s m _ meth c G base RX5 cX5_isPoint 5 (some .boolean) wsX5_isPoint := ⟨B.exec, B.bytes, B.returns, hml, findClass_of_methodNamed B.named, atoms_spec (ws := wsX5_isPoint) B.pre, B.notSynchronized, hK, hbase, hX⟩
  obtain ⟨hx, hb, hr, -, hown, hts, hlocks, -, -, -⟩ := id C0
  have hS : va_S (xA base) s.heap s.heap [] := va_S.rf
  have hl := lv_entry ([.ref a0, .ref p1, .int p2, .int p3]) (n := 5) (Nat.le_of_ble_eq_true rfl)
  rw [lg_entry_eq]
  generalize (lg_sl ([.ref a0, .ref p1, .int p2, .int p3]) ++ List.replicate (5 - (lg_sl ([.ref a0, .ref p1, .int p2, .int p3])).length) Slot.unset).toArray = ls at hl ⊢
  have hl : lv_has ls 5 [(0, .ref a0), (1, .ref p1), (2, .int p2), (3, .int p3)] := hl
  unfold wp_X5_isPoint at h
  have hL3 : ∀ w ∈ u_ws RX3 TX3 5, w.before _ s = true := fun w h9 => hts w (List.mem_cons_of_mem _ (List.mem_append_left _ (List.mem_append_right _ (h9))))
  have q2 : (Cond.fieldLink RX5 237 "RollupStore$Series" "kind" "I").before _ s = true := hts _ (List.mem_cons_of_mem _ (List.mem_append_left _ (List.mem_append_left _ (List.mem_of_getElem? (i := 0) rfl))))
  have q3 : (Cond.constant RX5 240 (-1000000)).before _ s = true := hts _ (List.mem_cons_of_mem _ (List.mem_append_left _ (List.mem_append_left _ (List.mem_of_getElem? (i := 1) rfl))))
  have hL5 : ∀ w ∈ u_ws RX5 TX5 7, w.before _ s = true := fun w h9 => hts w (List.mem_cons_of_mem _ (List.mem_append_right _ (h9)))
  have q5 : (Cond.fieldLink RX5 105 "RollupStore" "clock" "I").before _ s = true := hts _ (List.mem_cons_of_mem _ (List.mem_append_left _ (List.mem_append_left _ (List.mem_of_getElem? (i := 2) rfl))))
  have q6 : (Cond.constant RX5 104 (1000000)).before _ s = true := hts _ (List.mem_cons_of_mem _ (List.mem_append_left _ (List.mem_append_left _ (List.mem_of_getElem? (i := 3) rfl))))
  refine lv_aload_n hx hb dX5_isPoint_0 rfl (lv_at hl 1 rfl) ?_
  obtain ⟨g1, h⟩ := h
  refine xr_getI (ci := 3) (C := RX3) (T := TX3) (N := 5) hx hb hL3 hown hK hh g1 (by decide) rfl 0 60 rfl rfl (by decide) (by decide) q2 (fun _ h9 => h9) dX5_isPoint_1 ?_
  refine lv_iconst (v := 1) hx hb dX5_isPoint_4 (by decide) ?_
  refine lv_icmp_ne (tgt := 12) hx hb dX5_isPoint_5 (by decide) (fun c2 => ?_) (fun c2 => ?_)
  · replace h := h.1 c2
    refine lv_ldc hx hb hown q3 dX5_isPoint_12 ?_
    refine lv_topi (fun x3 ex3 => ?_)
    replace h := h x3 ex3
    refine lv_istore (lv' := [(4, .int x3), (0, .ref a0), (1, .ref p1), (2, .int p2), (3, .int p3)]) hx hb dX5_isPoint_14 hl (by decide) rfl (fun ls hl => ?_)
    refine lv_iload_n hx hb dX5_isPoint_16 rfl (lv_at hl 3 rfl) ?_
    refine lv_if_lt (tgt := 44) hx hb dX5_isPoint_17 (by decide) (fun c4 => ?_) (fun c4 => ?_)
    · replace h := h.1 c4
      refine lv_iconst (v := 0) hx hb dX5_isPoint_44 (by decide) ?_
      exact (xe_z hx hb hr hlocks hbase hh hK hX hS (Or.inl rfl) h (Nat.le_of_ble_eq_true rfl) (Nat.le_of_ble_eq_true rfl) dX5_isPoint_45)
    · replace h := h.2 c4
      refine lv_iload_n hx hb dX5_isPoint_20 rfl (lv_at hl 3 rfl) ?_
      refine lv_aload_n hx hb dX5_isPoint_21 rfl (lv_at hl 1 rfl) ?_
      obtain ⟨g5, h⟩ := h
      refine xr_getI (ci := 5) (C := RX5) (T := TX5) (N := 7) hx hb hL5 hown hK hh g5 (by decide) rfl 2 102 rfl rfl (by decide) (by decide) q5 (fun _ h9 => h9) dX5_isPoint_22 ?_
      refine lv_icmp_gt (tgt := 44) hx hb dX5_isPoint_25 (by decide) (fun c6 => ?_) (fun c6 => ?_)
      · replace h := h.1 c6
        refine lv_iconst (v := 0) hx hb dX5_isPoint_44 (by decide) ?_
        exact (xe_z hx hb hr hlocks hbase hh hK hX hS (Or.inl rfl) h (Nat.le_of_ble_eq_true rfl) (Nat.le_of_ble_eq_true rfl) dX5_isPoint_45)
      · replace h := h.2 c6
        refine lv_iload_n hx hb dX5_isPoint_28 rfl (lv_at hl 4 rfl) ?_
        refine lv_iload hx hb dX5_isPoint_29 (lv_at hl 0 rfl) ?_
        refine lv_icmp_lt (tgt := 44) hx hb dX5_isPoint_31 (by decide) (fun c7 => ?_) (fun c7 => ?_)
        · replace h := h.1 c7
          refine lv_iconst (v := 0) hx hb dX5_isPoint_44 (by decide) ?_
          exact (xe_z hx hb hr hlocks hbase hh hK hX hS (Or.inl rfl) h (Nat.le_of_ble_eq_true rfl) (Nat.le_of_ble_eq_true rfl) dX5_isPoint_45)
        · replace h := h.2 c7
          refine lv_iload_n hx hb dX5_isPoint_34 rfl (lv_at hl 4 rfl) ?_
          refine lv_ldc hx hb hown q6 dX5_isPoint_35 ?_
          refine lv_icmp_gt (tgt := 44) hx hb dX5_isPoint_37 (by decide) (fun c8 => ?_) (fun c8 => ?_)
          · replace h := h.1 c8
            refine lv_iconst (v := 0) hx hb dX5_isPoint_44 (by decide) ?_
            exact (xe_z hx hb hr hlocks hbase hh hK hX hS (Or.inl rfl) h (Nat.le_of_ble_eq_true rfl) (Nat.le_of_ble_eq_true rfl) dX5_isPoint_45)
          · replace h := h.2 c8
            refine lv_iconst (v := 1) hx hb dX5_isPoint_40 (by decide) ?_
            refine lv_goto (tgt := 45) hx hb dX5_isPoint_41 (by decide) ?_
            exact (xe_z hx hb hr hlocks hbase hh hK hX hS (Or.inr rfl) h (Nat.le_of_ble_eq_true rfl) (Nat.le_of_ble_eq_true rfl) dX5_isPoint_45)
  · replace h := h.2 c2
    refine lv_iconst (v := 0) hx hb dX5_isPoint_8 (by decide) ?_
    refine lv_goto (tgt := 14) hx hb dX5_isPoint_9 (by decide) ?_
    refine lv_topi (fun x9 ex9 => ?_)
    replace h := h x9 ex9
    refine lv_istore (lv' := [(4, .int x9), (0, .ref a0), (1, .ref p1), (2, .int p2), (3, .int p3)]) hx hb dX5_isPoint_14 hl (by decide) rfl (fun ls hl => ?_)
    refine lv_iload_n hx hb dX5_isPoint_16 rfl (lv_at hl 3 rfl) ?_
    refine lv_if_lt (tgt := 44) hx hb dX5_isPoint_17 (by decide) (fun c10 => ?_) (fun c10 => ?_)
    · replace h := h.1 c10
      refine lv_iconst (v := 0) hx hb dX5_isPoint_44 (by decide) ?_
      exact (xe_z hx hb hr hlocks hbase hh hK hX hS (Or.inl rfl) h (Nat.le_of_ble_eq_true rfl) (Nat.le_of_ble_eq_true rfl) dX5_isPoint_45)
    · replace h := h.2 c10
      refine lv_iload_n hx hb dX5_isPoint_20 rfl (lv_at hl 3 rfl) ?_
      refine lv_aload_n hx hb dX5_isPoint_21 rfl (lv_at hl 1 rfl) ?_
      obtain ⟨g11, h⟩ := h
      refine xr_getI (ci := 5) (C := RX5) (T := TX5) (N := 7) hx hb hL5 hown hK hh g11 (by decide) rfl 2 102 rfl rfl (by decide) (by decide) q5 (fun _ h9 => h9) dX5_isPoint_22 ?_
      refine lv_icmp_gt (tgt := 44) hx hb dX5_isPoint_25 (by decide) (fun c12 => ?_) (fun c12 => ?_)
      · replace h := h.1 c12
        refine lv_iconst (v := 0) hx hb dX5_isPoint_44 (by decide) ?_
        exact (xe_z hx hb hr hlocks hbase hh hK hX hS (Or.inl rfl) h (Nat.le_of_ble_eq_true rfl) (Nat.le_of_ble_eq_true rfl) dX5_isPoint_45)
      · replace h := h.2 c12
        refine lv_iload_n hx hb dX5_isPoint_28 rfl (lv_at hl 4 rfl) ?_
        refine lv_iload hx hb dX5_isPoint_29 (lv_at hl 0 rfl) ?_
        refine lv_icmp_lt (tgt := 44) hx hb dX5_isPoint_31 (by decide) (fun c13 => ?_) (fun c13 => ?_)
        · replace h := h.1 c13
          refine lv_iconst (v := 0) hx hb dX5_isPoint_44 (by decide) ?_
          exact (xe_z hx hb hr hlocks hbase hh hK hX hS (Or.inl rfl) h (Nat.le_of_ble_eq_true rfl) (Nat.le_of_ble_eq_true rfl) dX5_isPoint_45)
        · replace h := h.2 c13
          refine lv_iload_n hx hb dX5_isPoint_34 rfl (lv_at hl 4 rfl) ?_
          refine lv_ldc hx hb hown q6 dX5_isPoint_35 ?_
          refine lv_icmp_gt (tgt := 44) hx hb dX5_isPoint_37 (by decide) (fun c14 => ?_) (fun c14 => ?_)
          · replace h := h.1 c14
            refine lv_iconst (v := 0) hx hb dX5_isPoint_44 (by decide) ?_
            exact (xe_z hx hb hr hlocks hbase hh hK hX hS (Or.inl rfl) h (Nat.le_of_ble_eq_true rfl) (Nat.le_of_ble_eq_true rfl) dX5_isPoint_45)
          · replace h := h.2 c14
            refine lv_iconst (v := 1) hx hb dX5_isPoint_40 (by decide) ?_
            refine lv_goto (tgt := 45) hx hb dX5_isPoint_41 (by decide) ?_
            exact (xe_z hx hb hr hlocks hbase hh hK hX hS (Or.inr rfl) h (Nat.le_of_ble_eq_true rfl) (Nat.le_of_ble_eq_true rfl) dX5_isPoint_45)

set_option maxHeartbeats 4000000 in
set_option maxRecDepth 100000 in
theorem mt_X5_needPoint (l : Launch) (hl9 : l.stackTraces = false) (G : GG) (base : Nat) {a0 : Nat} {p1 : Nat} {p2 : Int32} {p3 : Int32} {m0 : MM} {Q : MM → Prop} {X : Nat → MM → Prop} (h : wp_X5_needPoint a0 p1 p2 p3 m0 Q X) : vx_Met l yX5_needPoint wsX5_needPoint ({ frames := 6, cells := 1, slots := 6, locals := 96 }) (va_Pc [.ref a0, .ref p1, .int p2, .int p3] (SP G base m0)) (va_Qv Q (HB G base) (xA base)) (xX G base X) 1 6 (xA base) := by
  refine vx_ofW (cc := cX5_needPoint) (maxL := 4) (ret := none) (by decide) rfl ?_
  intro p e s m args below meth c s₁ B hml hout hv
  obtain ⟨rfl, hbase, hh, hK, hX⟩ := hv
  have C0 : BC p s m _ meth c G base RX5 cX5_needPoint 4 none wsX5_needPoint := ⟨B.exec, B.bytes, B.returns, hml, findClass_of_methodNamed B.named, atoms_spec (ws := wsX5_needPoint) B.pre, B.notSynchronized, hK, hbase, hX⟩
  obtain ⟨hx, hb, hr, -, hown, hts, hlocks, -, -, -⟩ := id C0
  have hS : va_S (xA base) s.heap s.heap [] := va_S.rf
  have hl := lv_entry ([.ref a0, .ref p1, .int p2, .int p3]) (n := 4) (Nat.le_of_ble_eq_true rfl)
  rw [lg_entry_eq]
  generalize (lg_sl ([.ref a0, .ref p1, .int p2, .int p3]) ++ List.replicate (4 - (lg_sl ([.ref a0, .ref p1, .int p2, .int p3])).length) Slot.unset).toArray = ls at hl ⊢
  have hl : lv_has ls 4 [(0, .ref a0), (1, .ref p1), (2, .int p2), (3, .int p3)] := hl
  unfold wp_X5_needPoint at h
  have hW1 : ∀ w ∈ (vx_atS RX5 222 "java/lang/IllegalArgumentException" ["java/lang/RuntimeException", "java/lang/Exception"]).filter goodWord, w.before _ s = true := fun w h9 => hts w (List.mem_cons_of_mem _ (List.mem_append_right _ (h9)))
  have q2 : (Cond.classLink RX5 218 "java/lang/IllegalArgumentException").before _ s = true := hts _ (List.mem_cons_of_mem _ (List.mem_append_left _ (List.mem_append_left _ (List.mem_append_left _ (List.mem_of_getElem? (i := 0) rfl)))))
  have q3 : (Cond.initialized "java/lang/IllegalArgumentException").before _ s = true := hts _ (List.mem_cons_of_mem _ (List.mem_append_left _ (List.mem_append_left _ (List.mem_append_left _ (List.mem_of_getElem? (i := 1) rfl)))))
  refine lv_aload_n hx hb dX5_needPoint_0 rfl (lv_at hl 0 rfl) ?_
  refine lv_aload_n hx hb dX5_needPoint_1 rfl (lv_at hl 1 rfl) ?_
  refine lv_iload_n hx hb dX5_needPoint_2 rfl (lv_at hl 2 rfl) ?_
  refine lv_iload_n hx hb dX5_needPoint_3 rfl (lv_at hl 3 rfl) ?_
  obtain ⟨g1, h⟩ := h
  refine xc_i (va_runV (As := [.ref p1, .int p2, .int p3]) (rest := []) ⟨hx, hb, hml, hown, hts⟩ (mt_X5_isPoint l G base h) (cwV 3 hts gX5_needPoint_X5_isPoint rfl rfl rfl (by decide +kernel) ⟨Nat.le_of_ble_eq_true rfl, Nat.le_of_ble_eq_true rfl⟩) (xp_V hbase hh hK hX hS (ci := 5) g1 (by decide) rfl) rfl rfl hl.1 rfl (lv_room (Nat.le_of_ble_eq_true rfl)) dX5_needPoint_4 ⟨Nat.le_of_ble_eq_true rfl, Nat.le_of_ble_eq_true rfl⟩) hS (fun r2 m3 H locs h hh hS => ?_)
  refine lv_if_ne (tgt := 20) hx hb dX5_needPoint_7 (by decide) (fun c4 => ?_) (fun c4 => ?_)
  · replace h := h.1 c4
    exact vx_ret (xe_v hx hb hr hlocks hbase hh hK hX hS h (Nat.le_of_ble_eq_true rfl) (Nat.le_of_ble_eq_true rfl) dX5_needPoint_20)
  · replace h := h.2 c4
    exact xe_throw1 (text := "time or value is out of range") (is := 241) hx hb hl9 hout hlocks hbase hh hX hS hown q2 q3 hW1 (List.mem_of_getElem? (i := 9) rfl) (hl.1.trans hml.symm) dX5_needPoint_10 dX5_needPoint_13 dX5_needPoint_14 dX5_needPoint_16 dX5_needPoint_19 (Nat.le_of_ble_eq_true rfl) (Nat.le_of_ble_eq_true rfl) (Nat.le_of_ble_eq_true rfl) (Nat.le_of_ble_eq_true rfl) h (Nat.le_of_ble_eq_true rfl) (Nat.le_of_ble_eq_true rfl)

set_option maxHeartbeats 4000000 in
set_option maxRecDepth 100000 in
theorem mtq_X5_needPoint (l : Launch) (G : GG) (base : Nat) {a0 : Nat} {p1 : Nat} {p2 : Int32} {p3 : Int32} {m0 : MM} {Q : MM → Prop} (h : wp_X5_needPoint a0 p1 p2 p3 m0 Q (fun _ _ => False)) : Met l yX5_needPoint wsX5_needPoint ({ frames := 6, cells := 0, slots := 0, locals := 96 }) (va_Pc [.ref a0, .ref p1, .int p2, .int p3] (SP G base m0)) (va_Qv Q (HB G base) (xA base)) 0 0 (xA base) := by
  refine Met.ofW (cc := cX5_needPoint) (maxL := 4) (ret := none) (by decide) rfl ?_
  intro p e s m args below meth c s₁ B hml hv
  obtain ⟨rfl, hbase, hh, hK, hX⟩ := hv
  have C0 : BC p s m _ meth c G base RX5 cX5_needPoint 4 none wsX5_needPoint := ⟨B.exec, B.bytes, B.returns, hml, findClass_of_methodNamed B.named, atoms_spec (ws := wsX5_needPoint) B.pre, B.notSynchronized, hK, hbase, hX⟩
  obtain ⟨hx, hb, hr, -, hown, hts, hlocks, -, -, -⟩ := id C0
  have hS : va_S (xA base) s.heap s.heap [] := va_S.rf
  have hl := lv_entry ([.ref a0, .ref p1, .int p2, .int p3]) (n := 4) (Nat.le_of_ble_eq_true rfl)
  rw [lg_entry_eq]
  generalize (lg_sl ([.ref a0, .ref p1, .int p2, .int p3]) ++ List.replicate (4 - (lg_sl ([.ref a0, .ref p1, .int p2, .int p3])).length) Slot.unset).toArray = ls at hl ⊢
  have hl : lv_has ls 4 [(0, .ref a0), (1, .ref p1), (2, .int p2), (3, .int p3)] := hl
  unfold wp_X5_needPoint at h
  refine lv_aload_n hx hb dX5_needPoint_0 rfl (lv_at hl 0 rfl) ?_
  refine lv_aload_n hx hb dX5_needPoint_1 rfl (lv_at hl 1 rfl) ?_
  refine lv_iload_n hx hb dX5_needPoint_2 rfl (lv_at hl 2 rfl) ?_
  refine lv_iload_n hx hb dX5_needPoint_3 rfl (lv_at hl 3 rfl) ?_
  obtain ⟨g1, h⟩ := h
  refine xc_i (va_runV (As := [.ref p1, .int p2, .int p3]) (rest := []) ⟨hx, hb, hml, hown, hts⟩ (mt_X5_isPoint l G base h) (cwV 3 hts gX5_needPoint_X5_isPoint rfl rfl rfl (by decide +kernel) ⟨Nat.le_of_ble_eq_true rfl, Nat.le_of_ble_eq_true rfl⟩) (xp_V hbase hh hK hX hS (ci := 5) g1 (by decide) rfl) rfl rfl hl.1 rfl (lv_room (Nat.le_of_ble_eq_true rfl)) dX5_needPoint_4 ⟨Nat.le_of_ble_eq_true rfl, Nat.le_of_ble_eq_true rfl⟩) hS (fun r2 m3 H locs h hh hS => ?_)
  refine lv_if_ne (tgt := 20) hx hb dX5_needPoint_7 (by decide) (fun c4 => ?_) (fun c4 => ?_)
  · replace h := h.1 c4
    exact (xe_v hx hb hr hlocks hbase hh hK hX hS h (Nat.le_of_ble_eq_true rfl) (Nat.le_of_ble_eq_true rfl) dX5_needPoint_20)
  · replace h := h.2 c4
    exact h.elim

set_option maxHeartbeats 4000000 in
set_option maxRecDepth 100000 in
theorem mt_X5_isTooOld (l : Launch) (G : GG) (base : Nat) {a0 : Nat} {p1 : Int32} {m0 : MM} {Q : Int32 → MM → Prop} (h : wp_X5_isTooOld a0 p1 m0 Q) : Met l yX5_isTooOld wsX5_isTooOld ({ frames := 0, cells := 0, slots := 0, locals := 8 }) (va_Pc [.ref a0, .int p1] (SP G base m0)) (va_Qi Q (HB G base) (xA base)) 0 0 (xA base) := by
  refine Met.ofW (cc := cX5_isTooOld) (maxL := 2) (ret := (some .boolean)) (by decide) rfl ?_
  intro p e s m args below meth c s₁ B hml hv
  obtain ⟨rfl, hbase, hh, hK, hX⟩ := hv
  have C0 : BC p s m _ meth c G base RX5 cX5_isTooOld 2 (some .boolean) wsX5_isTooOld := ⟨B.exec, B.bytes, B.returns, hml, findClass_of_methodNamed B.named, atoms_spec (ws := wsX5_isTooOld) B.pre, B.notSynchronized, hK, hbase, hX⟩
  obtain ⟨hx, hb, hr, -, hown, hts, hlocks, -, -, -⟩ := id C0
  have hS : va_S (xA base) s.heap s.heap [] := va_S.rf
  have hl := lv_entry ([.ref a0, .int p1]) (n := 2) (Nat.le_of_ble_eq_true rfl)
  rw [lg_entry_eq]
  generalize (lg_sl ([.ref a0, .int p1]) ++ List.replicate (2 - (lg_sl ([.ref a0, .int p1])).length) Slot.unset).toArray = ls at hl ⊢
  have hl : lv_has ls 2 [(0, .ref a0), (1, .int p1)] := hl
  unfold wp_X5_isTooOld at h
  have hL5 : ∀ w ∈ u_ws RX5 TX5 7, w.before _ s = true := fun w h9 => hts w (List.mem_cons_of_mem _ (List.mem_append_right _ (h9)))
  have q2 : (Cond.fieldLink RX5 105 "RollupStore" "clock" "I").before _ s = true := hts _ (List.mem_cons_of_mem _ (List.mem_append_left _ (List.mem_of_getElem? (i := 0) rfl)))
  refine lv_iload_n hx hb dX5_isTooOld_0 rfl (lv_at hl 1 rfl) ?_
  refine lv_aload_n hx hb dX5_isTooOld_1 rfl (lv_at hl 0 rfl) ?_
  obtain ⟨g1, h⟩ := h
  refine xr_getI (ci := 5) (C := RX5) (T := TX5) (N := 7) hx hb hL5 hown hK hh g1 (by decide) rfl 2 102 rfl rfl (by decide) (by decide) q2 (fun _ h9 => h9) dX5_isTooOld_2 ?_
  refine lv_sipush (v := 3600) hx hb dX5_isTooOld_5 (by decide) ?_
  refine lv_isub hx hb dX5_isTooOld_8 ?_
  refine lv_icmp_ge (tgt := 16) hx hb dX5_isTooOld_9 (by decide) (fun c2 => ?_) (fun c2 => ?_)
  · replace h := h.1 c2
    refine lv_iconst (v := 0) hx hb dX5_isTooOld_16 (by decide) ?_
    exact (xe_z hx hb hr hlocks hbase hh hK hX hS (Or.inl rfl) h (Nat.le_of_ble_eq_true rfl) (Nat.le_of_ble_eq_true rfl) dX5_isTooOld_17)
  · replace h := h.2 c2
    refine lv_iconst (v := 1) hx hb dX5_isTooOld_12 (by decide) ?_
    refine lv_goto (tgt := 17) hx hb dX5_isTooOld_13 (by decide) ?_
    exact (xe_z hx hb hr hlocks hbase hh hK hX hS (Or.inr rfl) h (Nat.le_of_ble_eq_true rfl) (Nat.le_of_ble_eq_true rfl) dX5_isTooOld_17)

set_option maxHeartbeats 4000000 in
set_option maxRecDepth 100000 in
theorem mt_X5_hasPlace (l : Launch) (G : GG) (base : Nat) {a0 : Nat} {p1 : Nat} {p2 : Int32} {m0 : MM} {Q : Int32 → MM → Prop} (h : wp_X5_hasPlace a0 p1 p2 m0 Q) : Met l yX5_hasPlace wsX5_hasPlace ({ frames := 1, cells := 0, slots := 0, locals := 31 }) (va_Pc [.ref a0, .ref p1, .int p2] (SP G base m0)) (va_Qi Q (HB G base) (xA base)) 0 0 (xA base) := by
  refine Met.ofW (cc := cX5_hasPlace) (maxL := 4) (ret := (some .boolean)) (by decide) rfl ?_
  intro p e s m args below meth c s₁ B hml hv
  obtain ⟨rfl, hbase, hh, hK, hX⟩ := hv
  have C0 : BC p s m _ meth c G base RX5 cX5_hasPlace 4 (some .boolean) wsX5_hasPlace := ⟨B.exec, B.bytes, B.returns, hml, findClass_of_methodNamed B.named, atoms_spec (ws := wsX5_hasPlace) B.pre, B.notSynchronized, hK, hbase, hX⟩
  obtain ⟨hx, hb, hr, -, hown, hts, hlocks, -, -, -⟩ := id C0
  have hS : va_S (xA base) s.heap s.heap [] := va_S.rf
  have hl := lv_entry ([.ref a0, .ref p1, .int p2]) (n := 4) (Nat.le_of_ble_eq_true rfl)
  rw [lg_entry_eq]
  generalize (lg_sl ([.ref a0, .ref p1, .int p2]) ++ List.replicate (4 - (lg_sl ([.ref a0, .ref p1, .int p2])).length) Slot.unset).toArray = ls at hl ⊢
  have hl : lv_has ls 4 [(0, .ref a0), (1, .ref p1), (2, .int p2)] := hl
  unfold wp_X5_hasPlace at h
  have hL3 : ∀ w ∈ u_ws RX3 TX3 5, w.before _ s = true := fun w h9 => hts w (List.mem_cons_of_mem _ (List.mem_append_left _ (List.mem_append_left _ (List.mem_append_right _ (h9)))))
  have q2 : (Cond.fieldLink RX5 91 "RollupStore$Series" "points" "LRollupStore$Points;").before _ s = true := hts _ (List.mem_cons_of_mem _ (List.mem_append_left _ (List.mem_append_left _ (List.mem_append_left _ (List.mem_of_getElem? (i := 0) rfl)))))
  have hL0 : ∀ w ∈ u_ws RX0 TX0 3, w.before _ s = true := fun w h9 => hts w (List.mem_cons_of_mem _ (List.mem_append_left _ (List.mem_append_right _ (h9))))
  have q4 : (Cond.fieldLink RX5 243 "RollupStore$Points" "kept" "I").before _ s = true := hts _ (List.mem_cons_of_mem _ (List.mem_append_left _ (List.mem_append_left _ (List.mem_append_left _ (List.mem_of_getElem? (i := 1) rfl)))))
  refine lv_aload_n hx hb dX5_hasPlace_0 rfl (lv_at hl 1 rfl) ?_
  obtain ⟨g1, h⟩ := h
  obtain ⟨b2, eb2, h⟩ := h
  refine xr_getR (ci := 3) (C := RX3) (T := TX3) (N := 5) hx hb hL3 hown hK hh g1 (by decide) rfl 1 61 rfl rfl (by decide) (by decide) q2 (fun _ h9 => h9) eb2 dX5_hasPlace_1 ?_
  refine lv_astore_n (lv' := [(3, .ref b2), (0, .ref a0), (1, .ref p1), (2, .int p2)]) hx hb dX5_hasPlace_4 rfl hl (by decide) rfl (fun ls hl => ?_)
  refine lv_aload_n hx hb dX5_hasPlace_5 rfl (lv_at hl 1 rfl) ?_
  refine lv_iload_n hx hb dX5_hasPlace_6 rfl (lv_at hl 3 rfl) ?_
  obtain ⟨g3, h⟩ := h
  refine xc_i (va_runV (As := [.int p2]) (rest := []) ⟨hx, hb, hml, hown, hts⟩ (mt_X5_isTooOld l G base h) (cwV 1 hts gX5_hasPlace_X5_isTooOld rfl rfl rfl (by decide +kernel) ⟨Nat.le_of_ble_eq_true rfl, Nat.le_of_ble_eq_true rfl⟩) (xp_V hbase hh hK hX hS (ci := 5) g3 (by decide) rfl) rfl rfl hl.1 rfl (lv_room (Nat.le_of_ble_eq_true rfl)) dX5_hasPlace_7 ⟨Nat.le_of_ble_eq_true rfl, Nat.le_of_ble_eq_true rfl⟩) hS (fun r4 m5 H locs h hh hS => ?_)
  refine lv_if_ne (tgt := 39) hx hb dX5_hasPlace_10 (by decide) (fun c6 => ?_) (fun c6 => ?_)
  · replace h := h.1 c6
    refine lv_iconst (v := 0) hx hb dX5_hasPlace_39 (by decide) ?_
    exact (xe_z hx hb hr hlocks hbase hh hK hX hS (Or.inl rfl) h (Nat.le_of_ble_eq_true rfl) (Nat.le_of_ble_eq_true rfl) dX5_hasPlace_40)
  · replace h := h.2 c6
    refine lv_aload_n hx hb dX5_hasPlace_13 rfl (lv_at hl 0 rfl) ?_
    obtain ⟨g7, h⟩ := h
    refine xr_getI (ci := 0) (C := RX0) (T := TX0) (N := 3) hx hb hL0 hown hK hh g7 (by decide) rfl 2 2 rfl rfl (by decide) (by decide) q4 (fun _ h9 => h9) dX5_hasPlace_14 ?_
    refine lv_bipush (v := 100) hx hb dX5_hasPlace_17 (by decide) ?_
    refine lv_icmp_lt (tgt := 35) hx hb dX5_hasPlace_19 (by decide) (fun c8 => ?_) (fun c8 => ?_)
    · replace h := h.1 c8
      refine lv_iconst (v := 1) hx hb dX5_hasPlace_35 (by decide) ?_
      refine lv_goto (tgt := 40) hx hb dX5_hasPlace_36 (by decide) ?_
      exact (xe_z hx hb hr hlocks hbase hh hK hX hS (Or.inr rfl) h (Nat.le_of_ble_eq_true rfl) (Nat.le_of_ble_eq_true rfl) dX5_hasPlace_40)
    · replace h := h.2 c8
      refine lv_aload_n hx hb dX5_hasPlace_22 rfl (lv_at hl 0 rfl) ?_
      refine lv_aload_n hx hb dX5_hasPlace_23 rfl (lv_at hl 0 rfl) ?_
      refine lv_iload_n hx hb dX5_hasPlace_24 rfl (lv_at hl 3 rfl) ?_
      obtain ⟨g9, h⟩ := h
      refine xc_i (va_runV (As := [.int p2]) (rest := [.ref b2]) ⟨hx, hb, hml, hown, hts⟩ (mt_X0_placeFrom l G base h) (cwV 1 hts gX5_hasPlace_X0_placeFrom rfl rfl rfl (by decide +kernel) ⟨Nat.le_of_ble_eq_true rfl, Nat.le_of_ble_eq_true rfl⟩) (xp_V hbase hh hK hX hS (ci := 0) g9 (by decide) rfl) rfl rfl hl.1 rfl (lv_room (Nat.le_of_ble_eq_true rfl)) dX5_hasPlace_25 ⟨Nat.le_of_ble_eq_true rfl, Nat.le_of_ble_eq_true rfl⟩) hS (fun r10 m11 H locs h hh hS => ?_)
      refine lv_iload_n hx hb dX5_hasPlace_28 rfl (lv_at hl 3 rfl) ?_
      obtain ⟨g12, h⟩ := h
      refine xc_i (va_runV (As := [.int r10, .int p2]) (rest := []) ⟨hx, hb, hml, hown, hts⟩ (mt_X0_isAt l G base h) (cwV 2 hts gX5_hasPlace_X0_isAt rfl rfl rfl (by decide +kernel) ⟨Nat.le_of_ble_eq_true rfl, Nat.le_of_ble_eq_true rfl⟩) (xp_V hbase hh hK hX hS (ci := 0) g12 (by decide) rfl) rfl rfl hl.1 rfl (lv_room (Nat.le_of_ble_eq_true rfl)) dX5_hasPlace_29 ⟨Nat.le_of_ble_eq_true rfl, Nat.le_of_ble_eq_true rfl⟩) hS (fun r13 m14 H locs h hh hS => ?_)
      refine lv_if_eq (tgt := 39) hx hb dX5_hasPlace_32 (by decide) (fun c15 => ?_) (fun c15 => ?_)
      · replace h := h.1 c15
        refine lv_iconst (v := 0) hx hb dX5_hasPlace_39 (by decide) ?_
        exact (xe_z hx hb hr hlocks hbase hh hK hX hS (Or.inl rfl) h (Nat.le_of_ble_eq_true rfl) (Nat.le_of_ble_eq_true rfl) dX5_hasPlace_40)
      · replace h := h.2 c15
        refine lv_iconst (v := 1) hx hb dX5_hasPlace_35 (by decide) ?_
        refine lv_goto (tgt := 40) hx hb dX5_hasPlace_36 (by decide) ?_
        exact (xe_z hx hb hr hlocks hbase hh hK hX hS (Or.inr rfl) h (Nat.le_of_ble_eq_true rfl) (Nat.le_of_ble_eq_true rfl) dX5_hasPlace_40)

set_option maxHeartbeats 4000000 in
set_option maxRecDepth 100000 in
theorem mt_X5_needPlace (l : Launch) (hl9 : l.stackTraces = false) (G : GG) (base : Nat) {a0 : Nat} {p1 : Nat} {p2 : Int32} {m0 : MM} {Q : MM → Prop} {X : Nat → MM → Prop} (h : wp_X5_needPlace a0 p1 p2 m0 Q X) : vx_Met l yX5_needPlace wsX5_needPlace ({ frames := 6, cells := 1, slots := 6, locals := 96 }) (va_Pc [.ref a0, .ref p1, .int p2] (SP G base m0)) (va_Qv Q (HB G base) (xA base)) (xX G base X) 1 6 (xA base) := by
  refine vx_ofW (cc := cX5_needPlace) (maxL := 3) (ret := none) (by decide) rfl ?_
  intro p e s m args below meth c s₁ B hml hout hv
  obtain ⟨rfl, hbase, hh, hK, hX⟩ := hv
  have C0 : BC p s m _ meth c G base RX5 cX5_needPlace 3 none wsX5_needPlace := ⟨B.exec, B.bytes, B.returns, hml, findClass_of_methodNamed B.named, atoms_spec (ws := wsX5_needPlace) B.pre, B.notSynchronized, hK, hbase, hX⟩
  obtain ⟨hx, hb, hr, -, hown, hts, hlocks, -, -, -⟩ := id C0
  have hS : va_S (xA base) s.heap s.heap [] := va_S.rf
  have hl := lv_entry ([.ref a0, .ref p1, .int p2]) (n := 3) (Nat.le_of_ble_eq_true rfl)
  rw [lg_entry_eq]
  generalize (lg_sl ([.ref a0, .ref p1, .int p2]) ++ List.replicate (3 - (lg_sl ([.ref a0, .ref p1, .int p2])).length) Slot.unset).toArray = ls at hl ⊢
  have hl : lv_has ls 3 [(0, .ref a0), (1, .ref p1), (2, .int p2)] := hl
  unfold wp_X5_needPlace at h
  have hW2 : ∀ w ∈ (vx_atS RX5 51 "java/lang/IllegalStateException" ["java/lang/RuntimeException", "java/lang/Exception"]).filter goodWord, w.before _ s = true := fun w h9 => hts w (List.mem_cons_of_mem _ (List.mem_append_right _ (h9)))
  have q2 : (Cond.classLink RX5 47 "java/lang/IllegalStateException").before _ s = true := hts _ (List.mem_cons_of_mem _ (List.mem_append_left _ (List.mem_append_left _ (List.mem_append_left _ (List.mem_append_left _ (List.mem_append_left _ (List.mem_of_getElem? (i := 0) rfl)))))))
  have q3 : (Cond.initialized "java/lang/IllegalStateException").before _ s = true := hts _ (List.mem_cons_of_mem _ (List.mem_append_left _ (List.mem_append_left _ (List.mem_append_left _ (List.mem_append_left _ (List.mem_append_left _ (List.mem_of_getElem? (i := 1) rfl)))))))
  refine lv_aload_n hx hb dX5_needPlace_0 rfl (lv_at hl 0 rfl) ?_
  refine lv_aload_n hx hb dX5_needPlace_1 rfl (lv_at hl 1 rfl) ?_
  refine lv_iload_n hx hb dX5_needPlace_2 rfl (lv_at hl 2 rfl) ?_
  obtain ⟨g1, h⟩ := h
  refine xc_i (va_runV (As := [.ref p1, .int p2]) (rest := []) ⟨hx, hb, hml, hown, hts⟩ (mt_X5_hasPlace l G base h) (cwV 2 hts gX5_needPlace_X5_hasPlace rfl rfl rfl (by decide +kernel) ⟨Nat.le_of_ble_eq_true rfl, Nat.le_of_ble_eq_true rfl⟩) (xp_V hbase hh hK hX hS (ci := 5) g1 (by decide) rfl) rfl rfl hl.1 rfl (lv_room (Nat.le_of_ble_eq_true rfl)) dX5_needPlace_3 ⟨Nat.le_of_ble_eq_true rfl, Nat.le_of_ble_eq_true rfl⟩) hS (fun r2 m3 H locs h hh hS => ?_)
  refine lv_if_ne (tgt := 19) hx hb dX5_needPlace_6 (by decide) (fun c4 => ?_) (fun c4 => ?_)
  · replace h := h.1 c4
    exact vx_ret (xe_v hx hb hr hlocks hbase hh hK hX hS h (Nat.le_of_ble_eq_true rfl) (Nat.le_of_ble_eq_true rfl) dX5_needPlace_19)
  · replace h := h.2 c4
    exact xe_throw2 (text := "the time is too old, or the series is full") (is := 249) hx hb hl9 hout hlocks hbase hh hX hS hown q2 q3 hW2 (List.mem_of_getElem? (i := 10) rfl) (hl.1.trans hml.symm) dX5_needPlace_9 dX5_needPlace_12 dX5_needPlace_13 dX5_needPlace_15 dX5_needPlace_18 (Nat.le_of_ble_eq_true rfl) (Nat.le_of_ble_eq_true rfl) (Nat.le_of_ble_eq_true rfl) (Nat.le_of_ble_eq_true rfl) h (Nat.le_of_ble_eq_true rfl) (Nat.le_of_ble_eq_true rfl)

set_option maxHeartbeats 4000000 in
set_option maxRecDepth 100000 in
theorem mtq_X5_needPlace (l : Launch) (G : GG) (base : Nat) {a0 : Nat} {p1 : Nat} {p2 : Int32} {m0 : MM} {Q : MM → Prop} (h : wp_X5_needPlace a0 p1 p2 m0 Q (fun _ _ => False)) : Met l yX5_needPlace wsX5_needPlace ({ frames := 6, cells := 0, slots := 0, locals := 96 }) (va_Pc [.ref a0, .ref p1, .int p2] (SP G base m0)) (va_Qv Q (HB G base) (xA base)) 0 0 (xA base) := by
  refine Met.ofW (cc := cX5_needPlace) (maxL := 3) (ret := none) (by decide) rfl ?_
  intro p e s m args below meth c s₁ B hml hv
  obtain ⟨rfl, hbase, hh, hK, hX⟩ := hv
  have C0 : BC p s m _ meth c G base RX5 cX5_needPlace 3 none wsX5_needPlace := ⟨B.exec, B.bytes, B.returns, hml, findClass_of_methodNamed B.named, atoms_spec (ws := wsX5_needPlace) B.pre, B.notSynchronized, hK, hbase, hX⟩
  obtain ⟨hx, hb, hr, -, hown, hts, hlocks, -, -, -⟩ := id C0
  have hS : va_S (xA base) s.heap s.heap [] := va_S.rf
  have hl := lv_entry ([.ref a0, .ref p1, .int p2]) (n := 3) (Nat.le_of_ble_eq_true rfl)
  rw [lg_entry_eq]
  generalize (lg_sl ([.ref a0, .ref p1, .int p2]) ++ List.replicate (3 - (lg_sl ([.ref a0, .ref p1, .int p2])).length) Slot.unset).toArray = ls at hl ⊢
  have hl : lv_has ls 3 [(0, .ref a0), (1, .ref p1), (2, .int p2)] := hl
  unfold wp_X5_needPlace at h
  refine lv_aload_n hx hb dX5_needPlace_0 rfl (lv_at hl 0 rfl) ?_
  refine lv_aload_n hx hb dX5_needPlace_1 rfl (lv_at hl 1 rfl) ?_
  refine lv_iload_n hx hb dX5_needPlace_2 rfl (lv_at hl 2 rfl) ?_
  obtain ⟨g1, h⟩ := h
  refine xc_i (va_runV (As := [.ref p1, .int p2]) (rest := []) ⟨hx, hb, hml, hown, hts⟩ (mt_X5_hasPlace l G base h) (cwV 2 hts gX5_needPlace_X5_hasPlace rfl rfl rfl (by decide +kernel) ⟨Nat.le_of_ble_eq_true rfl, Nat.le_of_ble_eq_true rfl⟩) (xp_V hbase hh hK hX hS (ci := 5) g1 (by decide) rfl) rfl rfl hl.1 rfl (lv_room (Nat.le_of_ble_eq_true rfl)) dX5_needPlace_3 ⟨Nat.le_of_ble_eq_true rfl, Nat.le_of_ble_eq_true rfl⟩) hS (fun r2 m3 H locs h hh hS => ?_)
  refine lv_if_ne (tgt := 19) hx hb dX5_needPlace_6 (by decide) (fun c4 => ?_) (fun c4 => ?_)
  · replace h := h.1 c4
    exact (xe_v hx hb hr hlocks hbase hh hK hX hS h (Nat.le_of_ble_eq_true rfl) (Nat.le_of_ble_eq_true rfl) dX5_needPlace_19)
  · replace h := h.2 c4
    exact h.elim

set_option maxHeartbeats 4000000 in
set_option maxRecDepth 100000 in
theorem mt_X3_refreshRollup (l : Launch) (G : GG) (base : Nat) {a0 : Nat} {p1 : Int32} {p2 : Int32} {m0 : MM} {Q : MM → Prop} {kc ks : Nat} (h : wp_X3_refreshRollup a0 p1 p2 m0 Q kc ks) : Met l yX3_refreshRollup wsX3_refreshRollup ({ frames := 3, cells := kc, slots := ks, locals := 117 }) (va_Pc [.ref a0, .int p1, .int p2] (SP G base m0)) (va_Qv Q (HB G base) (xA base)) kc ks (xA base) := by
  refine Met.ofW (cc := cX3_refreshRollup) (maxL := 6) (ret := none) (by decide) rfl ?_
  intro p e s m args below meth c s₁ B hml hv
  obtain ⟨rfl, hbase, hh, hK, hX⟩ := hv
  have C0 : BC p s m _ meth c G base RX3 cX3_refreshRollup 6 none wsX3_refreshRollup := ⟨B.exec, B.bytes, B.returns, hml, findClass_of_methodNamed B.named, atoms_spec (ws := wsX3_refreshRollup) B.pre, B.notSynchronized, hK, hbase, hX⟩
  obtain ⟨hx, hb, hr, -, hown, hts, hlocks, -, -, -⟩ := id C0
  have hS : va_S (xA base) s.heap s.heap [] := va_S.rf
  have hl := lv_entry ([.ref a0, .int p1, .int p2]) (n := 6) (Nat.le_of_ble_eq_true rfl)
  rw [lg_entry_eq]
  generalize (lg_sl ([.ref a0, .int p1, .int p2]) ++ List.replicate (6 - (lg_sl ([.ref a0, .int p1, .int p2])).length) Slot.unset).toArray = ls at hl ⊢
  have hl : lv_has ls 6 [(0, .ref a0), (1, .int p1), (2, .int p2)] := hl
  unfold wp_X3_refreshRollup at h
  have hcc : 0 + kc ≤ kc := by omega
  have hss : 0 + ks ≤ ks := by omega
  have hL2 : ∀ w ∈ u_ws RX2 TX2 3, w.before _ s = true := fun w h9 => hts w (List.mem_cons_of_mem _ (List.mem_append_left _ (List.mem_append_left _ (List.mem_append_left _ (List.mem_append_right _ (h9))))))
  have q2 : (Cond.fieldLink RX3 78 "RollupStore$Rollups" "length" "I").before _ s = true := hts _ (List.mem_cons_of_mem _ (List.mem_append_left _ (List.mem_append_left _ (List.mem_append_left _ (List.mem_append_left _ (List.mem_append_left _ (List.mem_of_getElem? (i := 0) rfl)))))))
  have hL1 : ∀ w ∈ u_ws RX1 TX1 8, w.before _ s = true := fun w h9 => hts w (List.mem_cons_of_mem _ (List.mem_append_left _ (List.mem_append_right _ (h9))))
  have q4 : (Cond.fieldLink RX3 86 "RollupStore$Rollup" "count" "I").before _ s = true := hts _ (List.mem_cons_of_mem _ (List.mem_append_left _ (List.mem_append_left _ (List.mem_append_left _ (List.mem_append_left _ (List.mem_append_left _ (List.mem_of_getElem? (i := 2) rfl)))))))
  have hL3 : ∀ w ∈ u_ws RX3 TX3 5, w.before _ s = true := fun w h9 => hts w (List.mem_cons_of_mem _ (List.mem_append_left _ (List.mem_append_left _ (List.mem_append_right _ (h9)))))
  have q6 : (Cond.fieldLink RX3 12 "RollupStore$Series" "points" "LRollupStore$Points;").before _ s = true := hts _ (List.mem_cons_of_mem _ (List.mem_append_left _ (List.mem_append_left _ (List.mem_append_left _ (List.mem_append_left _ (List.mem_append_left _ (List.mem_of_getElem? (i := 1) rfl)))))))
  refine lv_aload_n hx hb dX3_refreshRollup_0 rfl (lv_at hl 0 rfl) ?_
  refine lv_iload_n hx hb dX3_refreshRollup_1 rfl (lv_at hl 1 rfl) ?_
  obtain ⟨g1, h⟩ := h
  refine xc_q (va_runV (As := [.int p1]) (rest := []) ⟨hx, hb, hml, hown, hts⟩ (mt_X3_rollupsOf l G base h) (cwV 1 hts gX3_refreshRollup_X3_rollupsOf rfl rfl rfl (by decide +kernel) ⟨Nat.le_of_ble_eq_true rfl, Nat.le_of_ble_eq_true rfl⟩) (xp_V hbase hh hK hX hS (ci := 3) g1 (by decide) rfl) rfl rfl hl.1 rfl (lv_room (Nat.le_of_ble_eq_true rfl)) dX3_refreshRollup_2 ⟨by show _ ≤ kc; omega, by show _ ≤ ks; omega⟩) hS (fun r2 m3 H locs h hh hS => ?_)
  obtain ⟨b4, eb4, h⟩ := h
  rw [eb4]
  refine W.eq (g2 := F0 m 5 ls [.ref b4]) rfl ?_
  refine lv_astore_n (lv' := [(3, .ref b4), (0, .ref a0), (1, .int p1), (2, .int p2)]) hx hb dX3_refreshRollup_5 rfl hl (by decide) rfl (fun ls hl => ?_)
  refine lv_aload_n hx hb dX3_refreshRollup_6 rfl (lv_at hl 0 rfl) ?_
  refine lv_iload_n hx hb dX3_refreshRollup_7 rfl (lv_at hl 3 rfl) ?_
  obtain ⟨c5, s6, g7, g8, h⟩ := h
  obtain ⟨g9, h⟩ := h
  refine xc_q (va_runV (As := [.int p2]) (rest := []) ⟨hx, hb, hml, hown, hts⟩ (mt_X2_findOrMake l G base h) (cwV 1 hts gX3_refreshRollup_X2_findOrMake rfl rfl rfl (by decide +kernel) ⟨Nat.le_of_ble_eq_true rfl, Nat.le_of_ble_eq_true rfl⟩) (xp_V hbase hh hK hX hS (ci := 2) g9 (by decide) rfl) rfl rfl hl.1 rfl (lv_room (Nat.le_of_ble_eq_true rfl)) dX3_refreshRollup_8 ⟨by show _ ≤ kc; omega, by show _ ≤ ks; omega⟩) hS (fun r10 m11 H locs h hh hS => ?_)
  obtain ⟨kc12, ekc12⟩ : ∃ z : Nat, z = kc - c5 := ⟨_, rfl⟩
  obtain ⟨ks13, eks13⟩ : ∃ z : Nat, z = ks - s6 := ⟨_, rfl⟩
  replace h := h kc12 ks13 ekc12 eks13
  obtain ⟨cl14, ecl14⟩ : ∃ z : Nat, z = 0 + c5 := ⟨_, rfl⟩
  obtain ⟨sl15, esl15⟩ : ∃ z : Nat, z = 0 + s6 := ⟨_, rfl⟩
  refine W_cs ecl14 esl15 ?_
  have hcc : cl14 + kc12 ≤ kc := by omega
  have hss : sl15 + ks13 ≤ ks := by omega
  rcases r10 with _ | b16
  · refine W.eq (g2 := F0 m 11 ls [.null]) rfl ?_
    replace h := h.1 rfl
    refine lv_astoreN (lv' := [(4, .null), (3, .ref b4), (0, .ref a0), (1, .int p1), (2, .int p2)]) hx hb dX3_refreshRollup_11 hl (by decide) rfl (fun ls hl => ?_)
    refine lv_aloadN hx hb dX3_refreshRollup_13 (lv_at hl 0 rfl) ?_
    refine lv_ifnonnullN hx hb dX3_refreshRollup_15 ?_
    exact (xe_v hx hb hr hlocks hbase hh hK hX hS h (by omega) (by omega) dX3_refreshRollup_18)
  · refine W.eq (g2 := F0 m 11 ls [.ref b16]) rfl ?_
    replace h := h.2 b16 rfl
    refine lv_astore (lv' := [(4, .ref b16), (3, .ref b4), (0, .ref a0), (1, .int p1), (2, .int p2)]) hx hb dX3_refreshRollup_11 hl (by decide) rfl (fun ls hl => ?_)
    refine lv_aload hx hb dX3_refreshRollup_13 (lv_at hl 0 rfl) ?_
    refine lv_ifnonnull (tgt := 19) hx hb dX3_refreshRollup_15 (by decide) ?_
    refine lv_aload hx hb dX3_refreshRollup_19 (lv_at hl 0 rfl) ?_
    obtain ⟨g17, h⟩ := h
    refine xc_v (va_runV (As := []) (rest := []) ⟨hx, hb, hml, hown, hts⟩ (mt_X1_clear l G base h) (cwV 0 hts gX3_refreshRollup_X1_clear rfl rfl rfl (by decide +kernel) ⟨Nat.le_of_ble_eq_true rfl, Nat.le_of_ble_eq_true rfl⟩) (xp_V hbase hh hK hX hS (ci := 1) g17 (by decide) rfl) rfl rfl hl.1 rfl (lv_room (Nat.le_of_ble_eq_true rfl)) dX3_refreshRollup_21 ⟨by show _ ≤ kc; omega, by show _ ≤ ks; omega⟩) hS (fun m19 H locs h hh hS => ?_)
    refine lv_iload_n hx hb dX3_refreshRollup_24 rfl (lv_at hl 4 rfl) ?_
    refine lv_aload_n hx hb dX3_refreshRollup_25 rfl (lv_at hl 1 rfl) ?_
    obtain ⟨g20, h⟩ := h
    refine xr_getI (ci := 2) (C := RX2) (T := TX2) (N := 3) hx hb hL2 hown hK hh g20 (by decide) rfl 0 40 rfl rfl (by decide) (by decide) q2 (fun _ h9 => h9) dX3_refreshRollup_26 ?_
    refine lv_iadd hx hb dX3_refreshRollup_29 ?_
    refine lv_topi (fun x21 ex21 => ?_)
    replace h := h x21 ex21
    refine lv_istore (lv' := [(5, .int x21), (4, .ref b16), (3, .ref b4), (0, .ref a0), (1, .int p1), (2, .int p2)]) hx hb dX3_refreshRollup_30 hl (by decide) rfl (fun ls hl => ?_)
    refine lv_iload_n hx hb dX3_refreshRollup_32 rfl (lv_at hl 4 rfl) ?_
    refine lv_iconst (v := 1) hx hb dX3_refreshRollup_33 (by decide) ?_
    refine lv_icmp_ne (tgt := 52) hx hb dX3_refreshRollup_34 (by decide) (fun c22 => ?_) (fun c22 => ?_)
    · replace h := h.1 c22
      refine lv_aload_n hx hb dX3_refreshRollup_52 rfl (lv_at hl 3 rfl) ?_
      refine lv_iload_n hx hb dX3_refreshRollup_53 rfl (lv_at hl 4 rfl) ?_
      refine lv_iconst (v := 1) hx hb dX3_refreshRollup_54 (by decide) ?_
      refine lv_isub hx hb dX3_refreshRollup_55 ?_
      obtain ⟨g23, h⟩ := h
      refine xc_q (va_runV (As := [.int (p1 - (1 : Int32))]) (rest := []) ⟨hx, hb, hml, hown, hts⟩ (mt_X3_rollupsOf l G base h) (cwV 1 hts gX3_refreshRollup_X3_rollupsOf rfl rfl rfl (by decide +kernel) ⟨Nat.le_of_ble_eq_true rfl, Nat.le_of_ble_eq_true rfl⟩) (xp_V hbase hh hK hX hS (ci := 3) g23 (by decide) rfl) rfl rfl hl.1 rfl (lv_room (Nat.le_of_ble_eq_true rfl)) dX3_refreshRollup_56 ⟨by show _ ≤ kc; omega, by show _ ≤ ks; omega⟩) hS (fun r24 m25 H locs h hh hS => ?_)
      refine lv_aload hx hb dX3_refreshRollup_59 (lv_at hl 1 rfl) ?_
      refine lv_iload_n hx hb dX3_refreshRollup_61 rfl (lv_at hl 5 rfl) ?_
      refine lv_iload hx hb dX3_refreshRollup_62 (lv_at hl 0 rfl) ?_
      obtain ⟨b26, eb26, h⟩ := h
      rw [eb26]
      refine W.eq (g2 := F0 m 64 ls [.int x21, .int p2, .ref b16, .ref b26]) rfl ?_
      obtain ⟨g27, h⟩ := h
      refine xc_v (va_runV (As := [.ref b16, .int p2, .int x21]) (rest := []) ⟨hx, hb, hml, hown, hts⟩ (mt_X2_addTo l G base h) (cwV 3 hts gX3_refreshRollup_X2_addTo rfl rfl rfl (by decide +kernel) ⟨Nat.le_of_ble_eq_true rfl, Nat.le_of_ble_eq_true rfl⟩) (xp_V hbase hh hK hX hS (ci := 2) g27 (by decide) rfl) rfl rfl hl.1 rfl (lv_room (Nat.le_of_ble_eq_true rfl)) dX3_refreshRollup_64 ⟨by show _ ≤ kc; omega, by show _ ≤ ks; omega⟩) hS (fun m29 H locs h hh hS => ?_)
      refine lv_aload hx hb dX3_refreshRollup_67 (lv_at hl 1 rfl) ?_
      obtain ⟨g30, h⟩ := h
      refine xr_getI (ci := 1) (C := RX1) (T := TX1) (N := 8) hx hb hL1 hown hK hh g30 (by decide) rfl 1 21 rfl rfl (by decide) (by decide) q4 (fun _ h9 => h9) dX3_refreshRollup_69 ?_
      refine lv_if_ne (tgt := 85) hx hb dX3_refreshRollup_72 (by decide) (fun c31 => ?_) (fun c31 => ?_)
      · replace h := h.1 c31
        exact (xe_v hx hb hr hlocks hbase hh hK hX hS h (by omega) (by omega) dX3_refreshRollup_85)
      · replace h := h.2 c31
        refine lv_aload_n hx hb dX3_refreshRollup_75 rfl (lv_at hl 2 rfl) ?_
        refine lv_aload_n hx hb dX3_refreshRollup_76 rfl (lv_at hl 2 rfl) ?_
        refine lv_iload_n hx hb dX3_refreshRollup_77 rfl (lv_at hl 5 rfl) ?_
        obtain ⟨g32, h⟩ := h
        refine xc_i (va_runV (As := [.int p2]) (rest := [.ref b4]) ⟨hx, hb, hml, hown, hts⟩ (mt_X2_placeFrom l G base h) (cwV 1 hts gX3_refreshRollup_X2_placeFrom rfl rfl rfl (by decide +kernel) ⟨Nat.le_of_ble_eq_true rfl, Nat.le_of_ble_eq_true rfl⟩) (xp_V hbase hh hK hX hS (ci := 2) g32 (by decide) rfl) rfl rfl hl.1 rfl (lv_room (Nat.le_of_ble_eq_true rfl)) dX3_refreshRollup_78 ⟨by show _ ≤ kc; omega, by show _ ≤ ks; omega⟩) hS (fun r33 m34 H locs h hh hS => ?_)
        refine lv_iconst (v := 1) hx hb dX3_refreshRollup_81 (by decide) ?_
        obtain ⟨g35, h⟩ := h
        refine xc_v (va_runV (As := [.int r33, .int (1 : Int32)]) (rest := []) ⟨hx, hb, hml, hown, hts⟩ (mt_X2_remove l G base h) (cwV 2 hts gX3_refreshRollup_X2_remove rfl rfl rfl (by decide +kernel) ⟨Nat.le_of_ble_eq_true rfl, Nat.le_of_ble_eq_true rfl⟩) (xp_V hbase hh hK hX hS (ci := 2) g35 (by decide) rfl) rfl rfl hl.1 rfl (lv_room (Nat.le_of_ble_eq_true rfl)) dX3_refreshRollup_82 ⟨by show _ ≤ kc; omega, by show _ ≤ ks; omega⟩) hS (fun m37 H locs h hh hS => ?_)
        exact (xe_v hx hb hr hlocks hbase hh hK hX hS h (by omega) (by omega) dX3_refreshRollup_85)
    · replace h := h.2 c22
      refine lv_aload_n hx hb dX3_refreshRollup_37 rfl (lv_at hl 3 rfl) ?_
      obtain ⟨g38, h⟩ := h
      obtain ⟨b39, eb39, h⟩ := h
      refine xr_getR (ci := 3) (C := RX3) (T := TX3) (N := 5) hx hb hL3 hown hK hh g38 (by decide) rfl 1 61 rfl rfl (by decide) (by decide) q6 (fun _ h9 => h9) eb39 dX3_refreshRollup_38 ?_
      refine lv_aload hx hb dX3_refreshRollup_41 (lv_at hl 1 rfl) ?_
      refine lv_iload_n hx hb dX3_refreshRollup_43 rfl (lv_at hl 5 rfl) ?_
      refine lv_iload hx hb dX3_refreshRollup_44 (lv_at hl 0 rfl) ?_
      obtain ⟨g40, h⟩ := h
      refine xc_v (va_runV (As := [.ref b16, .int p2, .int x21]) (rest := []) ⟨hx, hb, hml, hown, hts⟩ (mt_X0_addTo l G base h) (cwV 3 hts gX3_refreshRollup_X0_addTo rfl rfl rfl (by decide +kernel) ⟨Nat.le_of_ble_eq_true rfl, Nat.le_of_ble_eq_true rfl⟩) (xp_V hbase hh hK hX hS (ci := 0) g40 (by decide) rfl) rfl rfl hl.1 rfl (lv_room (Nat.le_of_ble_eq_true rfl)) dX3_refreshRollup_46 ⟨by show _ ≤ kc; omega, by show _ ≤ ks; omega⟩) hS (fun m42 H locs h hh hS => ?_)
      refine lv_goto (tgt := 67) hx hb dX3_refreshRollup_49 (by decide) ?_
      refine lv_aload hx hb dX3_refreshRollup_67 (lv_at hl 1 rfl) ?_
      obtain ⟨g43, h⟩ := h
      refine xr_getI (ci := 1) (C := RX1) (T := TX1) (N := 8) hx hb hL1 hown hK hh g43 (by decide) rfl 1 21 rfl rfl (by decide) (by decide) q4 (fun _ h9 => h9) dX3_refreshRollup_69 ?_
      refine lv_if_ne (tgt := 85) hx hb dX3_refreshRollup_72 (by decide) (fun c44 => ?_) (fun c44 => ?_)
      · replace h := h.1 c44
        exact (xe_v hx hb hr hlocks hbase hh hK hX hS h (by omega) (by omega) dX3_refreshRollup_85)
      · replace h := h.2 c44
        refine lv_aload_n hx hb dX3_refreshRollup_75 rfl (lv_at hl 2 rfl) ?_
        refine lv_aload_n hx hb dX3_refreshRollup_76 rfl (lv_at hl 2 rfl) ?_
        refine lv_iload_n hx hb dX3_refreshRollup_77 rfl (lv_at hl 5 rfl) ?_
        obtain ⟨g45, h⟩ := h
        refine xc_i (va_runV (As := [.int p2]) (rest := [.ref b4]) ⟨hx, hb, hml, hown, hts⟩ (mt_X2_placeFrom l G base h) (cwV 1 hts gX3_refreshRollup_X2_placeFrom rfl rfl rfl (by decide +kernel) ⟨Nat.le_of_ble_eq_true rfl, Nat.le_of_ble_eq_true rfl⟩) (xp_V hbase hh hK hX hS (ci := 2) g45 (by decide) rfl) rfl rfl hl.1 rfl (lv_room (Nat.le_of_ble_eq_true rfl)) dX3_refreshRollup_78 ⟨by show _ ≤ kc; omega, by show _ ≤ ks; omega⟩) hS (fun r46 m47 H locs h hh hS => ?_)
        refine lv_iconst (v := 1) hx hb dX3_refreshRollup_81 (by decide) ?_
        obtain ⟨g48, h⟩ := h
        refine xc_v (va_runV (As := [.int r46, .int (1 : Int32)]) (rest := []) ⟨hx, hb, hml, hown, hts⟩ (mt_X2_remove l G base h) (cwV 2 hts gX3_refreshRollup_X2_remove rfl rfl rfl (by decide +kernel) ⟨Nat.le_of_ble_eq_true rfl, Nat.le_of_ble_eq_true rfl⟩) (xp_V hbase hh hK hX hS (ci := 2) g48 (by decide) rfl) rfl rfl hl.1 rfl (lv_room (Nat.le_of_ble_eq_true rfl)) dX3_refreshRollup_82 ⟨by show _ ≤ kc; omega, by show _ ≤ ks; omega⟩) hS (fun m50 H locs h hh hS => ?_)
        exact (xe_v hx hb hr hlocks hbase hh hK hX hS h (by omega) (by omega) dX3_refreshRollup_85)

set_option maxHeartbeats 4000000 in
set_option maxRecDepth 100000 in
theorem bk_X3_refresh_2 {p : Program} {l : Launch} {e : Env} {s : State} {m : MethodId} {args : Array Value} {below : List Frame} {meth : Method} {c : Code} {G : GG} {base : Nat} {MC MS : Nat} (C0 : BC p s m args meth c G base RX3 cX3_refresh 3 none wsX3_refresh) {Q : MM → Prop} : ∀ (n : Nat) (l0 : Nat) (l1 : Int32) (l2 : Int32) (m0 : MM) (H : Heap) (locs : List Loc) (ls : Array Slot) (cl9 sl9 kc ks : Nat) (hcc : cl9 + kc ≤ MC) (hss : sl9 + ks ≤ MS), wp_X3_refresh_2 Q n l0 l1 l2 m0 kc ks → hp G (xA base) m0 H → va_S (xA base) s.heap H locs → lv_has ls 3 [(0, .ref l0), (1, .int l1), (2, .int l2)] → W p l e ({ frames := 4, cells := MC, slots := MS, locals := 142 } : Room) s m args below meth c H locs cl9 sl9 (MQ below (va_Qv Q (HB G base) (xA base)) args s MC MS (xA base)) (F0 m 2 ls []) := by
  obtain ⟨hx, hb, hr, hml, hown, hts, hlocks, hK, hbase, hX⟩ := id C0
  intro n
  induction n with
  | zero =>
    intro l0 l1 l2 m0 H locs ls cl9 sl9 kc ks hcc hss h
    unfold wp_X3_refresh_2 at h
    exact h.elim
  | succ n ih =>
    intro l0 l1 l2 m0 H locs ls cl9 sl9 kc ks hcc hss h hh hS hl
    unfold wp_X3_refresh_2 at h
    have q1 : (Cond.initialized RX5).before _ s = true := hts _ (List.mem_cons_of_mem _ (List.mem_append_left _ (List.mem_append_left _ (List.mem_append_left _ (List.mem_append_left _ (List.mem_append_left _ (List.mem_of_getElem? (i := 1) rfl)))))))
    have q2 : (Cond.static yX5_beginOf).before _ s = true := hts _ (List.mem_cons_of_mem _ (List.mem_append_left _ (List.mem_append_left _ (List.mem_append_left _ (List.mem_append_left _ (List.mem_append_left _ (List.mem_of_getElem? (i := 0) rfl)))))))
    refine lv_iload_n hx hb dX3_refresh_2 rfl (lv_at hl 2 rfl) ?_
    refine lv_iconst (v := 3) hx hb dX3_refresh_3 (by decide) ?_
    refine lv_icmp_gt (tgt := 23) hx hb dX3_refresh_4 (by decide) (fun c2 => ?_) (fun c2 => ?_)
    · replace h := h.1 c2
      exact (xe_v hx hb hr hlocks hbase hh hK hX hS h (by omega) (by omega) dX3_refresh_23)
    · replace h := h.2 c2
      refine lv_aload_n hx hb dX3_refresh_7 rfl (lv_at hl 0 rfl) ?_
      refine lv_iload_n hx hb dX3_refresh_8 rfl (lv_at hl 2 rfl) ?_
      refine lv_iload_n hx hb dX3_refresh_9 rfl (lv_at hl 2 rfl) ?_
      refine lv_iload_n hx hb dX3_refresh_10 rfl (lv_at hl 1 rfl) ?_
      refine xc_i (va_runSN (As := [.int l2, .int l1]) (rest := [.int l2, .ref l0]) ⟨hx, hb, hml, hown, hts⟩ (mt_X5_beginOf l G base h) ⟨va_cnB 2 hts gX3_refresh_X5_beginOf_n62 rfl rfl rfl (hX.2.2.2.2.2.2.2.1 _ (List.mem_of_getElem? (i := 3) rfl)) q1 (by decide +kernel) ⟨Nat.le_of_ble_eq_true rfl, Nat.le_of_ble_eq_true rfl⟩, q2, trivial⟩ (xp_S hbase hh hK hX hS) rfl rfl hl.1 rfl (lv_room (Nat.le_of_ble_eq_true rfl)) dX3_refresh_11 ⟨by show _ ≤ MC; omega, by show _ ≤ MS; omega⟩) hS (fun r3 m4 H locs h hh hS => ?_)
      obtain ⟨c5, s6, g7, g8, h⟩ := h
      obtain ⟨g9, h⟩ := h
      refine xc_v (va_runV (As := [.int l2, .int r3]) (rest := []) ⟨hx, hb, hml, hown, hts⟩ (mt_X3_refreshRollup l G base h) (cwV 2 hts gX3_refresh_X3_refreshRollup rfl rfl rfl (by decide +kernel) ⟨Nat.le_of_ble_eq_true rfl, Nat.le_of_ble_eq_true rfl⟩) (xp_V hbase hh hK hX hS (ci := 3) g9 (by decide) rfl) rfl rfl hl.1 rfl (lv_room (Nat.le_of_ble_eq_true rfl)) dX3_refresh_14 ⟨by show _ ≤ MC; omega, by show _ ≤ MS; omega⟩) hS (fun m11 H locs h hh hS => ?_)
      obtain ⟨kc12, ekc12⟩ : ∃ z : Nat, z = kc - c5 := ⟨_, rfl⟩
      obtain ⟨ks13, eks13⟩ : ∃ z : Nat, z = ks - s6 := ⟨_, rfl⟩
      replace h := h kc12 ks13 ekc12 eks13
      obtain ⟨cl14, ecl14⟩ : ∃ z : Nat, z = cl9 + c5 := ⟨_, rfl⟩
      obtain ⟨sl15, esl15⟩ : ∃ z : Nat, z = sl9 + s6 := ⟨_, rfl⟩
      refine W_cs ecl14 esl15 ?_
      have hcc : cl14 + kc12 ≤ MC := by omega
      have hss : sl15 + ks13 ≤ MS := by omega
      obtain ⟨x16, ex16⟩ : ∃ y : Int32, y = l2 + 1 := ⟨_, rfl⟩
      replace h := h x16 ex16
      refine lv_iinc (v := x16) (lv' := [(2, .int x16), (0, .ref l0), (1, .int l1)]) hx hb dX3_refresh_17 hl (k := 2) rfl (by rw [ex16]; rfl) (by decide) rfl (fun ls hl => ?_)
      refine lv_goto (tgt := 2) hx hb dX3_refresh_20 (by decide) ?_
      exact ih _ _ _ _ _ _ _ cl14 sl15 kc12 ks13 hcc hss h hh hS (lv_sub hl [1, 2, 0] rfl)

set_option maxHeartbeats 4000000 in
set_option maxRecDepth 100000 in
theorem mt_X3_refresh (l : Launch) (G : GG) (base : Nat) {a0 : Nat} {p1 : Int32} {m0 : MM} {Q : MM → Prop} {kc ks : Nat} (h : wp_X3_refresh a0 p1 m0 Q kc ks) : Met l yX3_refresh wsX3_refresh ({ frames := 4, cells := kc, slots := ks, locals := 142 }) (va_Pc [.ref a0, .int p1] (SP G base m0)) (va_Qv Q (HB G base) (xA base)) kc ks (xA base) := by
  refine Met.ofW (cc := cX3_refresh) (maxL := 3) (ret := none) (by decide) rfl ?_
  intro p e s m args below meth c s₁ B hml hv
  obtain ⟨rfl, hbase, hh, hK, hX⟩ := hv
  have C0 : BC p s m _ meth c G base RX3 cX3_refresh 3 none wsX3_refresh := ⟨B.exec, B.bytes, B.returns, hml, findClass_of_methodNamed B.named, atoms_spec (ws := wsX3_refresh) B.pre, B.notSynchronized, hK, hbase, hX⟩
  obtain ⟨hx, hb, hr, -, hown, hts, hlocks, -, -, -⟩ := id C0
  have hS : va_S (xA base) s.heap s.heap [] := va_S.rf
  have hl := lv_entry ([.ref a0, .int p1]) (n := 3) (Nat.le_of_ble_eq_true rfl)
  rw [lg_entry_eq]
  generalize (lg_sl ([.ref a0, .int p1]) ++ List.replicate (3 - (lg_sl ([.ref a0, .int p1])).length) Slot.unset).toArray = ls at hl ⊢
  have hl : lv_has ls 3 [(0, .ref a0), (1, .int p1)] := hl
  unfold wp_X3_refresh at h
  have hcc : 0 + kc ≤ kc := by omega
  have hss : 0 + ks ≤ ks := by omega
  refine lv_iconst (v := 1) hx hb dX3_refresh_0 (by decide) ?_
  refine lv_topi (fun x1 ex1 => ?_)
  replace h := h x1 ex1
  refine lv_istore_n (lv' := [(2, .int x1), (0, .ref a0), (1, .int p1)]) hx hb dX3_refresh_1 rfl hl (by decide) rfl (fun ls hl => ?_)
  obtain ⟨n9, h⟩ := h
  exact bk_X3_refresh_2 C0  n9 _ _ _ _ _ _ _ 0 0 kc ks hcc hss h hh hS (lv_sub hl [1, 2, 0] rfl)

set_option maxHeartbeats 4000000 in
set_option maxRecDepth 100000 in
theorem mt_X3_write (l : Launch) (G : GG) (base : Nat) {a0 : Nat} {p1 : Int32} {p2 : Int32} {m0 : MM} {Q : Int32 → MM → Prop} {kc ks : Nat} (h : wp_X3_write a0 p1 p2 m0 Q kc ks) : Met l yX3_write wsX3_write ({ frames := 5, cells := kc, slots := ks, locals := 164 }) (va_Pc [.ref a0, .int p1, .int p2] (SP G base m0)) (va_Qi Q (HB G base) (xA base)) kc ks (xA base) := by
  refine Met.ofW (cc := cX3_write) (maxL := 4) (ret := (some .boolean)) (by decide) rfl ?_
  intro p e s m args below meth c s₁ B hml hv
  obtain ⟨rfl, hbase, hh, hK, hX⟩ := hv
  have C0 : BC p s m _ meth c G base RX3 cX3_write 4 (some .boolean) wsX3_write := ⟨B.exec, B.bytes, B.returns, hml, findClass_of_methodNamed B.named, atoms_spec (ws := wsX3_write) B.pre, B.notSynchronized, hK, hbase, hX⟩
  obtain ⟨hx, hb, hr, -, hown, hts, hlocks, -, -, -⟩ := id C0
  have hS : va_S (xA base) s.heap s.heap [] := va_S.rf
  have hl := lv_entry ([.ref a0, .int p1, .int p2]) (n := 4) (Nat.le_of_ble_eq_true rfl)
  rw [lg_entry_eq]
  generalize (lg_sl ([.ref a0, .int p1, .int p2]) ++ List.replicate (4 - (lg_sl ([.ref a0, .int p1, .int p2])).length) Slot.unset).toArray = ls at hl ⊢
  have hl : lv_has ls 4 [(0, .ref a0), (1, .int p1), (2, .int p2)] := hl
  unfold wp_X3_write at h
  have hcc : 0 + kc ≤ kc := by omega
  have hss : 0 + ks ≤ ks := by omega
  have hL3 : ∀ w ∈ u_ws RX3 TX3 5, w.before _ s = true := fun w h9 => hts w (List.mem_cons_of_mem _ (List.mem_append_left _ (List.mem_append_left _ (List.mem_append_left _ (List.mem_append_right _ (h9))))))
  have q2 : (Cond.fieldLink RX3 12 "RollupStore$Series" "points" "LRollupStore$Points;").before _ s = true := hts _ (List.mem_cons_of_mem _ (List.mem_append_left _ (List.mem_append_left _ (List.mem_append_left _ (List.mem_append_left _ (List.mem_append_left _ (List.mem_of_getElem? (i := 0) rfl)))))))
  refine lv_aload_n hx hb dX3_write_0 rfl (lv_at hl 0 rfl) ?_
  obtain ⟨g1, h⟩ := h
  obtain ⟨b2, eb2, h⟩ := h
  refine xr_getR (ci := 3) (C := RX3) (T := TX3) (N := 5) hx hb hL3 hown hK hh g1 (by decide) rfl 1 61 rfl rfl (by decide) (by decide) q2 (fun _ h9 => h9) eb2 dX3_write_1 ?_
  refine lv_iload_n hx hb dX3_write_4 rfl (lv_at hl 1 rfl) ?_
  refine lv_iload_n hx hb dX3_write_5 rfl (lv_at hl 2 rfl) ?_
  obtain ⟨g3, h⟩ := h
  refine xc_i (va_runV (As := [.int p1, .int p2]) (rest := []) ⟨hx, hb, hml, hown, hts⟩ (mt_X0_write l G base h) (cwV 2 hts gX3_write_X0_write rfl rfl rfl (by decide +kernel) ⟨Nat.le_of_ble_eq_true rfl, Nat.le_of_ble_eq_true rfl⟩) (xp_V hbase hh hK hX hS (ci := 0) g3 (by decide) rfl) rfl rfl hl.1 rfl (lv_room (Nat.le_of_ble_eq_true rfl)) dX3_write_6 ⟨by show _ ≤ kc; omega, by show _ ≤ ks; omega⟩) hS (fun r4 m5 H locs h hh hS => ?_)
  refine lv_istore_n (lv' := [(3, .int r4), (0, .ref a0), (1, .int p1), (2, .int p2)]) hx hb dX3_write_9 rfl hl (by decide) rfl (fun ls hl => ?_)
  refine lv_aload_n hx hb dX3_write_10 rfl (lv_at hl 1 rfl) ?_
  refine lv_iload_n hx hb dX3_write_11 rfl (lv_at hl 2 rfl) ?_
  obtain ⟨c6, s7, g8, g9, h⟩ := h
  obtain ⟨g10, h⟩ := h
  refine xc_v (va_runV (As := [.int p1]) (rest := []) ⟨hx, hb, hml, hown, hts⟩ (mt_X3_refresh l G base h) (cwV 1 hts gX3_write_X3_refresh rfl rfl rfl (by decide +kernel) ⟨Nat.le_of_ble_eq_true rfl, Nat.le_of_ble_eq_true rfl⟩) (xp_V hbase hh hK hX hS (ci := 3) g10 (by decide) rfl) rfl rfl hl.1 rfl (lv_room (Nat.le_of_ble_eq_true rfl)) dX3_write_12 ⟨by show _ ≤ kc; omega, by show _ ≤ ks; omega⟩) hS (fun m12 H locs h hh hS => ?_)
  obtain ⟨kc13, ekc13⟩ : ∃ z : Nat, z = kc - c6 := ⟨_, rfl⟩
  obtain ⟨ks14, eks14⟩ : ∃ z : Nat, z = ks - s7 := ⟨_, rfl⟩
  replace h := h kc13 ks14 ekc13 eks14
  obtain ⟨cl15, ecl15⟩ : ∃ z : Nat, z = 0 + c6 := ⟨_, rfl⟩
  obtain ⟨sl16, esl16⟩ : ∃ z : Nat, z = 0 + s7 := ⟨_, rfl⟩
  refine W_cs ecl15 esl16 ?_
  have hcc : cl15 + kc13 ≤ kc := by omega
  have hss : sl16 + ks14 ≤ ks := by omega
  refine lv_iload_n hx hb dX3_write_15 rfl (lv_at hl 0 rfl) ?_
  exact (xe_z hx hb hr hlocks hbase hh hK hX hS h.1 h.2 (by omega) (by omega) dX3_write_16)

set_option maxHeartbeats 4000000 in
set_option maxRecDepth 100000 in
theorem mt_X5_put (l : Launch) (hl9 : l.stackTraces = false) (G : GG) (base : Nat) {a0 : Nat} {p1 : Int32} {p2 : Int32} {p3 : Int32} {m0 : MM} {Q : Int32 → MM → Prop} {X : Nat → MM → Prop} {kc ks : Nat} (h : wp_X5_put a0 p1 p2 p3 m0 Q X kc ks) : vx_Met l yX5_put wsX5_put ({ frames := 7, cells := kc, slots := ks, locals := 187 }) (va_Pc [.ref a0, .int p1, .int p2, .int p3] (SP G base m0)) (va_Qi Q (HB G base) (xA base)) (xX G base X) kc ks (xA base) := by
  refine vx_ofW (cc := cX5_put) (maxL := 5) (ret := (some .boolean)) (by decide) rfl ?_
  intro p e s m args below meth c s₁ B hml hout hv
  obtain ⟨rfl, hbase, hh, hK, hX⟩ := hv
  have C0 : BC p s m _ meth c G base RX5 cX5_put 5 (some .boolean) wsX5_put := ⟨B.exec, B.bytes, B.returns, hml, findClass_of_methodNamed B.named, atoms_spec (ws := wsX5_put) B.pre, B.notSynchronized, hK, hbase, hX⟩
  obtain ⟨hx, hb, hr, -, hown, hts, hlocks, -, -, -⟩ := id C0
  have hS : va_S (xA base) s.heap s.heap [] := va_S.rf
  have hl := lv_entry ([.ref a0, .int p1, .int p2, .int p3]) (n := 5) (Nat.le_of_ble_eq_true rfl)
  rw [lg_entry_eq]
  generalize (lg_sl ([.ref a0, .int p1, .int p2, .int p3]) ++ List.replicate (5 - (lg_sl ([.ref a0, .int p1, .int p2, .int p3])).length) Slot.unset).toArray = ls at hl ⊢
  have hl : lv_has ls 5 [(0, .ref a0), (1, .int p1), (2, .int p2), (3, .int p3)] := hl
  unfold wp_X5_put at h
  have hcc : 0 + kc ≤ kc := by omega
  have hss : 0 + ks ≤ ks := by omega
  refine lv_aload_n hx hb dX5_put_0 rfl (lv_at hl 0 rfl) ?_
  refine lv_iload_n hx hb dX5_put_1 rfl (lv_at hl 1 rfl) ?_
  obtain ⟨g1, g2, h⟩ := h
  obtain ⟨g3, h⟩ := h
  refine xt_q (vx_runV (As := [.int p1]) (rest := []) ⟨hx, hb, hml, hown, hts⟩ (mt_X5_seriesAt l hl9 G base h) (cwV 1 hts gX5_put_X5_seriesAt rfl rfl rfl (by decide +kernel) ⟨Nat.le_of_ble_eq_true rfl, Nat.le_of_ble_eq_true rfl⟩) (xp_V hbase hh hK hX hS (ci := 5) g3 (by decide) rfl) rfl rfl hl.1 rfl (lv_room (Nat.le_of_ble_eq_true rfl)) dX5_put_2 ⟨by show _ ≤ kc; omega, by show _ ≤ ks; omega⟩) hS (fun k9 m9 H locs q9 ce h hh hS hc9 hv9 hcl9 => xe_out hout hlocks hbase hh hK hX hS h hc9 hv9 hcl9 (by omega) (by omega)) (fun r4 m5 H locs h hh hS => ?_)
  obtain ⟨kc6, ekc6⟩ : ∃ z : Nat, z = kc - 1 := ⟨_, rfl⟩
  obtain ⟨ks7, eks7⟩ : ∃ z : Nat, z = ks - 6 := ⟨_, rfl⟩
  replace h := h kc6 ks7 ekc6 eks7
  obtain ⟨cl8, ecl8⟩ : ∃ z : Nat, z = 0 + 1 := ⟨_, rfl⟩
  obtain ⟨sl9, esl9⟩ : ∃ z : Nat, z = 0 + 6 := ⟨_, rfl⟩
  refine W_cs ecl8 esl9 ?_
  have hcc : cl8 + kc6 ≤ kc := by omega
  have hss : sl9 + ks7 ≤ ks := by omega
  obtain ⟨b10, eb10, h⟩ := h
  rw [eb10]
  refine W.eq (g2 := F0 m 5 ls [.ref b10]) rfl ?_
  refine lv_astore (lv' := [(4, .ref b10), (0, .ref a0), (1, .int p1), (2, .int p2), (3, .int p3)]) hx hb dX5_put_5 hl (by decide) rfl (fun ls hl => ?_)
  refine lv_aload_n hx hb dX5_put_7 rfl (lv_at hl 1 rfl) ?_
  refine lv_aload hx hb dX5_put_8 (lv_at hl 0 rfl) ?_
  refine lv_iload_n hx hb dX5_put_10 rfl (lv_at hl 3 rfl) ?_
  refine lv_iload_n hx hb dX5_put_11 rfl (lv_at hl 4 rfl) ?_
  obtain ⟨g11, g12, h⟩ := h
  obtain ⟨g13, h⟩ := h
  refine xt_v (vx_runV (As := [.ref b10, .int p2, .int p3]) (rest := []) ⟨hx, hb, hml, hown, hts⟩ (mt_X5_needPoint l hl9 G base h) (cwV 3 hts gX5_put_X5_needPoint rfl rfl rfl (by decide +kernel) ⟨Nat.le_of_ble_eq_true rfl, Nat.le_of_ble_eq_true rfl⟩) (xp_V hbase hh hK hX hS (ci := 5) g13 (by decide) rfl) rfl rfl hl.1 rfl (lv_room (Nat.le_of_ble_eq_true rfl)) dX5_put_12 ⟨by show _ ≤ kc; omega, by show _ ≤ ks; omega⟩) hS (fun k9 m9 H locs q9 ce h hh hS hc9 hv9 hcl9 => xe_out hout hlocks hbase hh hK hX hS h hc9 hv9 hcl9 (by omega) (by omega)) (fun m15 H locs h hh hS => ?_)
  obtain ⟨kc16, ekc16⟩ : ∃ z : Nat, z = kc6 - 1 := ⟨_, rfl⟩
  obtain ⟨ks17, eks17⟩ : ∃ z : Nat, z = ks7 - 6 := ⟨_, rfl⟩
  replace h := h kc16 ks17 ekc16 eks17
  obtain ⟨cl18, ecl18⟩ : ∃ z : Nat, z = cl8 + 1 := ⟨_, rfl⟩
  obtain ⟨sl19, esl19⟩ : ∃ z : Nat, z = sl9 + 6 := ⟨_, rfl⟩
  refine W_cs ecl18 esl19 ?_
  have hcc : cl18 + kc16 ≤ kc := by omega
  have hss : sl19 + ks17 ≤ ks := by omega
  refine lv_aload_n hx hb dX5_put_15 rfl (lv_at hl 1 rfl) ?_
  refine lv_aload hx hb dX5_put_16 (lv_at hl 0 rfl) ?_
  refine lv_iload_n hx hb dX5_put_18 rfl (lv_at hl 3 rfl) ?_
  obtain ⟨g20, g21, h⟩ := h
  obtain ⟨g22, h⟩ := h
  refine xt_v (vx_runV (As := [.ref b10, .int p2]) (rest := []) ⟨hx, hb, hml, hown, hts⟩ (mt_X5_needPlace l hl9 G base h) (cwV 2 hts gX5_put_X5_needPlace rfl rfl rfl (by decide +kernel) ⟨Nat.le_of_ble_eq_true rfl, Nat.le_of_ble_eq_true rfl⟩) (xp_V hbase hh hK hX hS (ci := 5) g22 (by decide) rfl) rfl rfl hl.1 rfl (lv_room (Nat.le_of_ble_eq_true rfl)) dX5_put_19 ⟨by show _ ≤ kc; omega, by show _ ≤ ks; omega⟩) hS (fun k9 m9 H locs q9 ce h hh hS hc9 hv9 hcl9 => xe_out hout hlocks hbase hh hK hX hS h hc9 hv9 hcl9 (by omega) (by omega)) (fun m24 H locs h hh hS => ?_)
  obtain ⟨kc25, ekc25⟩ : ∃ z : Nat, z = kc16 - 1 := ⟨_, rfl⟩
  obtain ⟨ks26, eks26⟩ : ∃ z : Nat, z = ks17 - 6 := ⟨_, rfl⟩
  replace h := h kc25 ks26 ekc25 eks26
  obtain ⟨cl27, ecl27⟩ : ∃ z : Nat, z = cl18 + 1 := ⟨_, rfl⟩
  obtain ⟨sl28, esl28⟩ : ∃ z : Nat, z = sl19 + 6 := ⟨_, rfl⟩
  refine W_cs ecl27 esl28 ?_
  have hcc : cl27 + kc25 ≤ kc := by omega
  have hss : sl28 + ks26 ≤ ks := by omega
  refine lv_aload hx hb dX5_put_22 (lv_at hl 0 rfl) ?_
  refine lv_iload_n hx hb dX5_put_24 rfl (lv_at hl 3 rfl) ?_
  refine lv_iload_n hx hb dX5_put_25 rfl (lv_at hl 4 rfl) ?_
  obtain ⟨c29, s30, g31, g32, h⟩ := h
  obtain ⟨g33, h⟩ := h
  refine xc_i (va_runV (As := [.int p2, .int p3]) (rest := []) ⟨hx, hb, hml, hown, hts⟩ (mt_X3_write l G base h) (cwV 2 hts gX5_put_X3_write rfl rfl rfl (by decide +kernel) ⟨Nat.le_of_ble_eq_true rfl, Nat.le_of_ble_eq_true rfl⟩) (xp_V hbase hh hK hX hS (ci := 3) g33 (by decide) rfl) rfl rfl hl.1 rfl (lv_room (Nat.le_of_ble_eq_true rfl)) dX5_put_26 ⟨by show _ ≤ kc; omega, by show _ ≤ ks; omega⟩) hS (fun r34 m35 H locs h hh hS => ?_)
  obtain ⟨kc36, ekc36⟩ : ∃ z : Nat, z = kc25 - c29 := ⟨_, rfl⟩
  obtain ⟨ks37, eks37⟩ : ∃ z : Nat, z = ks26 - s30 := ⟨_, rfl⟩
  replace h := h kc36 ks37 ekc36 eks37
  obtain ⟨cl38, ecl38⟩ : ∃ z : Nat, z = cl27 + c29 := ⟨_, rfl⟩
  obtain ⟨sl39, esl39⟩ : ∃ z : Nat, z = sl28 + s30 := ⟨_, rfl⟩
  refine W_cs ecl38 esl39 ?_
  have hcc : cl38 + kc36 ≤ kc := by omega
  have hss : sl39 + ks37 ≤ ks := by omega
  exact vx_ret (xe_z hx hb hr hlocks hbase hh hK hX hS h.1 h.2 (by omega) (by omega) dX5_put_29)

set_option maxHeartbeats 4000000 in
set_option maxRecDepth 100000 in
theorem mtq_X5_put (l : Launch) (G : GG) (base : Nat) {a0 : Nat} {p1 : Int32} {p2 : Int32} {p3 : Int32} {m0 : MM} {Q : Int32 → MM → Prop} {kc ks : Nat} (h : wp_X5_put a0 p1 p2 p3 m0 Q (fun _ _ => False) kc ks) : Met l yX5_put wsX5_put ({ frames := 7, cells := kc, slots := ks, locals := 187 }) (va_Pc [.ref a0, .int p1, .int p2, .int p3] (SP G base m0)) (va_Qi Q (HB G base) (xA base)) kc ks (xA base) := by
  refine Met.ofW (cc := cX5_put) (maxL := 5) (ret := (some .boolean)) (by decide) rfl ?_
  intro p e s m args below meth c s₁ B hml hv
  obtain ⟨rfl, hbase, hh, hK, hX⟩ := hv
  have C0 : BC p s m _ meth c G base RX5 cX5_put 5 (some .boolean) wsX5_put := ⟨B.exec, B.bytes, B.returns, hml, findClass_of_methodNamed B.named, atoms_spec (ws := wsX5_put) B.pre, B.notSynchronized, hK, hbase, hX⟩
  obtain ⟨hx, hb, hr, -, hown, hts, hlocks, -, -, -⟩ := id C0
  have hS : va_S (xA base) s.heap s.heap [] := va_S.rf
  have hl := lv_entry ([.ref a0, .int p1, .int p2, .int p3]) (n := 5) (Nat.le_of_ble_eq_true rfl)
  rw [lg_entry_eq]
  generalize (lg_sl ([.ref a0, .int p1, .int p2, .int p3]) ++ List.replicate (5 - (lg_sl ([.ref a0, .int p1, .int p2, .int p3])).length) Slot.unset).toArray = ls at hl ⊢
  have hl : lv_has ls 5 [(0, .ref a0), (1, .int p1), (2, .int p2), (3, .int p3)] := hl
  unfold wp_X5_put at h
  have hcc : 0 + kc ≤ kc := by omega
  have hss : 0 + ks ≤ ks := by omega
  refine lv_aload_n hx hb dX5_put_0 rfl (lv_at hl 0 rfl) ?_
  refine lv_iload_n hx hb dX5_put_1 rfl (lv_at hl 1 rfl) ?_
  obtain ⟨g1, g2, h⟩ := h
  obtain ⟨g3, h⟩ := h
  refine xc_q (va_runV (As := [.int p1]) (rest := []) ⟨hx, hb, hml, hown, hts⟩ (mtq_X5_seriesAt l G base h) (cwV 1 hts gX5_put_X5_seriesAt rfl rfl rfl (by decide +kernel) ⟨Nat.le_of_ble_eq_true rfl, Nat.le_of_ble_eq_true rfl⟩) (xp_V hbase hh hK hX hS (ci := 5) g3 (by decide) rfl) rfl rfl hl.1 rfl (lv_room (Nat.le_of_ble_eq_true rfl)) dX5_put_2 ⟨by show _ ≤ kc; omega, by show _ ≤ ks; omega⟩) hS (fun r4 m5 H locs h hh hS => ?_)
  refine W.widen (k := 0 + 1) (n := 0 + 6) (by omega) (by omega) ?_
  obtain ⟨kc6, ekc6⟩ : ∃ z : Nat, z = kc - 1 := ⟨_, rfl⟩
  obtain ⟨ks7, eks7⟩ : ∃ z : Nat, z = ks - 6 := ⟨_, rfl⟩
  replace h := h kc6 ks7 ekc6 eks7
  obtain ⟨cl8, ecl8⟩ : ∃ z : Nat, z = 0 + 1 := ⟨_, rfl⟩
  obtain ⟨sl9, esl9⟩ : ∃ z : Nat, z = 0 + 6 := ⟨_, rfl⟩
  refine W_cs ecl8 esl9 ?_
  have hcc : cl8 + kc6 ≤ kc := by omega
  have hss : sl9 + ks7 ≤ ks := by omega
  obtain ⟨b10, eb10, h⟩ := h
  rw [eb10]
  refine W.eq (g2 := F0 m 5 ls [.ref b10]) rfl ?_
  refine lv_astore (lv' := [(4, .ref b10), (0, .ref a0), (1, .int p1), (2, .int p2), (3, .int p3)]) hx hb dX5_put_5 hl (by decide) rfl (fun ls hl => ?_)
  refine lv_aload_n hx hb dX5_put_7 rfl (lv_at hl 1 rfl) ?_
  refine lv_aload hx hb dX5_put_8 (lv_at hl 0 rfl) ?_
  refine lv_iload_n hx hb dX5_put_10 rfl (lv_at hl 3 rfl) ?_
  refine lv_iload_n hx hb dX5_put_11 rfl (lv_at hl 4 rfl) ?_
  obtain ⟨g11, g12, h⟩ := h
  obtain ⟨g13, h⟩ := h
  refine xc_v (va_runV (As := [.ref b10, .int p2, .int p3]) (rest := []) ⟨hx, hb, hml, hown, hts⟩ (mtq_X5_needPoint l G base h) (cwV 3 hts gX5_put_X5_needPoint rfl rfl rfl (by decide +kernel) ⟨Nat.le_of_ble_eq_true rfl, Nat.le_of_ble_eq_true rfl⟩) (xp_V hbase hh hK hX hS (ci := 5) g13 (by decide) rfl) rfl rfl hl.1 rfl (lv_room (Nat.le_of_ble_eq_true rfl)) dX5_put_12 ⟨by show _ ≤ kc; omega, by show _ ≤ ks; omega⟩) hS (fun m15 H locs h hh hS => ?_)
  refine W.widen (k := cl8 + 1) (n := sl9 + 6) (by omega) (by omega) ?_
  obtain ⟨kc16, ekc16⟩ : ∃ z : Nat, z = kc6 - 1 := ⟨_, rfl⟩
  obtain ⟨ks17, eks17⟩ : ∃ z : Nat, z = ks7 - 6 := ⟨_, rfl⟩
  replace h := h kc16 ks17 ekc16 eks17
  obtain ⟨cl18, ecl18⟩ : ∃ z : Nat, z = cl8 + 1 := ⟨_, rfl⟩
  obtain ⟨sl19, esl19⟩ : ∃ z : Nat, z = sl9 + 6 := ⟨_, rfl⟩
  refine W_cs ecl18 esl19 ?_
  have hcc : cl18 + kc16 ≤ kc := by omega
  have hss : sl19 + ks17 ≤ ks := by omega
  refine lv_aload_n hx hb dX5_put_15 rfl (lv_at hl 1 rfl) ?_
  refine lv_aload hx hb dX5_put_16 (lv_at hl 0 rfl) ?_
  refine lv_iload_n hx hb dX5_put_18 rfl (lv_at hl 3 rfl) ?_
  obtain ⟨g20, g21, h⟩ := h
  obtain ⟨g22, h⟩ := h
  refine xc_v (va_runV (As := [.ref b10, .int p2]) (rest := []) ⟨hx, hb, hml, hown, hts⟩ (mtq_X5_needPlace l G base h) (cwV 2 hts gX5_put_X5_needPlace rfl rfl rfl (by decide +kernel) ⟨Nat.le_of_ble_eq_true rfl, Nat.le_of_ble_eq_true rfl⟩) (xp_V hbase hh hK hX hS (ci := 5) g22 (by decide) rfl) rfl rfl hl.1 rfl (lv_room (Nat.le_of_ble_eq_true rfl)) dX5_put_19 ⟨by show _ ≤ kc; omega, by show _ ≤ ks; omega⟩) hS (fun m24 H locs h hh hS => ?_)
  refine W.widen (k := cl18 + 1) (n := sl19 + 6) (by omega) (by omega) ?_
  obtain ⟨kc25, ekc25⟩ : ∃ z : Nat, z = kc16 - 1 := ⟨_, rfl⟩
  obtain ⟨ks26, eks26⟩ : ∃ z : Nat, z = ks17 - 6 := ⟨_, rfl⟩
  replace h := h kc25 ks26 ekc25 eks26
  obtain ⟨cl27, ecl27⟩ : ∃ z : Nat, z = cl18 + 1 := ⟨_, rfl⟩
  obtain ⟨sl28, esl28⟩ : ∃ z : Nat, z = sl19 + 6 := ⟨_, rfl⟩
  refine W_cs ecl27 esl28 ?_
  have hcc : cl27 + kc25 ≤ kc := by omega
  have hss : sl28 + ks26 ≤ ks := by omega
  refine lv_aload hx hb dX5_put_22 (lv_at hl 0 rfl) ?_
  refine lv_iload_n hx hb dX5_put_24 rfl (lv_at hl 3 rfl) ?_
  refine lv_iload_n hx hb dX5_put_25 rfl (lv_at hl 4 rfl) ?_
  obtain ⟨c29, s30, g31, g32, h⟩ := h
  obtain ⟨g33, h⟩ := h
  refine xc_i (va_runV (As := [.int p2, .int p3]) (rest := []) ⟨hx, hb, hml, hown, hts⟩ (mt_X3_write l G base h) (cwV 2 hts gX5_put_X3_write rfl rfl rfl (by decide +kernel) ⟨Nat.le_of_ble_eq_true rfl, Nat.le_of_ble_eq_true rfl⟩) (xp_V hbase hh hK hX hS (ci := 3) g33 (by decide) rfl) rfl rfl hl.1 rfl (lv_room (Nat.le_of_ble_eq_true rfl)) dX5_put_26 ⟨by show _ ≤ kc; omega, by show _ ≤ ks; omega⟩) hS (fun r34 m35 H locs h hh hS => ?_)
  obtain ⟨kc36, ekc36⟩ : ∃ z : Nat, z = kc25 - c29 := ⟨_, rfl⟩
  obtain ⟨ks37, eks37⟩ : ∃ z : Nat, z = ks26 - s30 := ⟨_, rfl⟩
  replace h := h kc36 ks37 ekc36 eks37
  obtain ⟨cl38, ecl38⟩ : ∃ z : Nat, z = cl27 + c29 := ⟨_, rfl⟩
  obtain ⟨sl39, esl39⟩ : ∃ z : Nat, z = sl28 + s30 := ⟨_, rfl⟩
  refine W_cs ecl38 esl39 ?_
  have hcc : cl38 + kc36 ≤ kc := by omega
  have hss : sl39 + ks37 ≤ ks := by omega
  exact (xe_z hx hb hr hlocks hbase hh hK hX hS h.1 h.2 (by omega) (by omega) dX5_put_29)

set_option maxHeartbeats 4000000 in
set_option maxRecDepth 100000 in
theorem bk_X5_putMany_53 {p : Program} {l : Launch} {e : Env} {s : State} {m : MethodId} {args : Array Value} {below : List Frame} {meth : Method} {c : Code} {G : GG} {base : Nat} {MC MS : Nat} (C0 : BC p s m args meth c G base RX5 cX5_putMany 11 (some .int) wsX5_putMany) (hl9 : l.stackTraces = false) (hout : ∀ x ∈ c.exceptionTable.toList, False) {Q : Int32 → MM → Prop} {X : Nat → MM → Prop} : ∀ (n : Nat) (l0 : Nat) (l2 : Int32) (l3 : Int32) (l4 : Int32) (l5 : Int32) (l6 : Int32) (l7 : Nat) (l8 : Int32) (m0 : MM) (H : Heap) (locs : List Loc) (ls : Array Slot) (cl9 sl9 kc ks : Nat) (hcc : cl9 + kc ≤ MC) (hss : sl9 + ks ≤ MS), wp_X5_putMany_53 Q X n l0 l2 l3 l4 l5 l6 l7 l8 m0 kc ks → hp G (xA base) m0 H → va_S (xA base) s.heap H locs → lv_has ls 11 [(0, .ref l0), (2, .int l2), (3, .int l3), (4, .int l4), (5, .int l5), (6, .int l6), (7, .ref l7), (8, .int l8)] → W p l e ({ frames := 7, cells := MC, slots := MS, locals := 187 } : Room) s m args below meth c H locs cl9 sl9 (vx_MQ below (va_Qi Q (HB G base) (xA base)) (xX G base X) args s MC MS (xA base)) (F0 m 53 ls []) := by
  obtain ⟨hx, hb, hr, hml, hown, hts, hlocks, hK, hbase, hX⟩ := id C0
  intro n
  induction n with
  | zero =>
    intro l0 l2 l3 l4 l5 l6 l7 l8 m0 H locs ls cl9 sl9 kc ks hcc hss h
    unfold wp_X5_putMany_53 at h
    exact h.elim
  | succ n ih =>
    intro l0 l2 l3 l4 l5 l6 l7 l8 m0 H locs ls cl9 sl9 kc ks hcc hss h hh hS hl
    unfold wp_X5_putMany_53 at h
    refine lv_iload hx hb dX5_putMany_53 (lv_at hl 7 rfl) ?_
    refine lv_iload hx hb dX5_putMany_55 (lv_at hl 5 rfl) ?_
    refine lv_icmp_ge (tgt := 121) hx hb dX5_putMany_57 (by decide) (fun c54 => ?_) (fun c54 => ?_)
    · replace h := h.1 c54
      refine lv_iload hx hb dX5_putMany_121 (lv_at hl 5 rfl) ?_
      exact vx_ret (xe_i hx hb hr hlocks hbase hh hK hX hS h (by omega) (by omega) dX5_putMany_123)
    · replace h := h.2 c54
      refine lv_iload_n hx hb dX5_putMany_60 rfl (lv_at hl 1 rfl) ?_
      refine lv_iload hx hb dX5_putMany_61 (lv_at hl 7 rfl) ?_
      refine lv_iload hx hb dX5_putMany_63 (lv_at hl 3 rfl) ?_
      refine lv_imul hx hb dX5_putMany_65 ?_
      refine lv_iadd hx hb dX5_putMany_66 ?_
      refine lv_topi (fun x55 ex55 => ?_)
      replace h := h x55 ex55
      refine lv_istore (lv' := [(9, .int x55), (0, .ref l0), (2, .int l2), (3, .int l3), (4, .int l4), (5, .int l5), (6, .int l6), (7, .ref l7), (8, .int l8)]) hx hb dX5_putMany_67 hl (by decide) rfl (fun ls hl => ?_)
      refine lv_iload_n hx hb dX5_putMany_69 rfl (lv_at hl 3 rfl) ?_
      refine lv_iload hx hb dX5_putMany_70 (lv_at hl 8 rfl) ?_
      refine lv_iload hx hb dX5_putMany_72 (lv_at hl 5 rfl) ?_
      refine lv_imul hx hb dX5_putMany_74 ?_
      refine lv_iadd hx hb dX5_putMany_75 ?_
      refine lv_topi (fun x56 ex56 => ?_)
      replace h := h x56 ex56
      refine lv_istore (lv' := [(10, .int x56), (9, .int x55), (0, .ref l0), (2, .int l2), (3, .int l3), (4, .int l4), (5, .int l5), (6, .int l6), (7, .ref l7), (8, .int l8)]) hx hb dX5_putMany_76 hl (by decide) rfl (fun ls hl => ?_)
      refine lv_aload_n hx hb dX5_putMany_78 rfl (lv_at hl 2 rfl) ?_
      refine lv_aload hx hb dX5_putMany_79 (lv_at hl 8 rfl) ?_
      refine lv_iload hx hb dX5_putMany_81 (lv_at hl 1 rfl) ?_
      refine lv_iload hx hb dX5_putMany_83 (lv_at hl 0 rfl) ?_
      obtain ⟨g57, h⟩ := h
      refine xc_i (va_runV (As := [.ref l7, .int x55, .int x56]) (rest := []) ⟨hx, hb, hml, hown, hts⟩ (mt_X5_isPoint l G base h) (cwV 3 hts gX5_putMany_X5_isPoint rfl rfl rfl (by decide +kernel) ⟨Nat.le_of_ble_eq_true rfl, Nat.le_of_ble_eq_true rfl⟩) (xp_V hbase hh hK hX hS (ci := 5) g57 (by decide) rfl) rfl rfl hl.1 rfl (lv_room (Nat.le_of_ble_eq_true rfl)) dX5_putMany_85 ⟨by show _ ≤ MC; omega, by show _ ≤ MS; omega⟩) hS (fun r58 m59 H locs h hh hS => ?_)
      refine lv_if_eq (tgt := 102) hx hb dX5_putMany_88 (by decide) (fun c60 => ?_) (fun c60 => ?_)
      · replace h := h.1 c60
        refine lv_iload hx hb dX5_putMany_102 (lv_at hl 9 rfl) ?_
        exact vx_ret (xe_i hx hb hr hlocks hbase hh hK hX hS h (by omega) (by omega) dX5_putMany_104)
      · replace h := h.2 c60
        refine lv_aload_n hx hb dX5_putMany_91 rfl (lv_at hl 2 rfl) ?_
        refine lv_aload hx hb dX5_putMany_92 (lv_at hl 8 rfl) ?_
        refine lv_iload hx hb dX5_putMany_94 (lv_at hl 1 rfl) ?_
        obtain ⟨g61, h⟩ := h
        refine xc_i (va_runV (As := [.ref l7, .int x55]) (rest := []) ⟨hx, hb, hml, hown, hts⟩ (mt_X5_hasPlace l G base h) (cwV 2 hts gX5_putMany_X5_hasPlace rfl rfl rfl (by decide +kernel) ⟨Nat.le_of_ble_eq_true rfl, Nat.le_of_ble_eq_true rfl⟩) (xp_V hbase hh hK hX hS (ci := 5) g61 (by decide) rfl) rfl rfl hl.1 rfl (lv_room (Nat.le_of_ble_eq_true rfl)) dX5_putMany_96 ⟨by show _ ≤ MC; omega, by show _ ≤ MS; omega⟩) hS (fun r62 m63 H locs h hh hS => ?_)
        refine lv_if_ne (tgt := 105) hx hb dX5_putMany_99 (by decide) (fun c64 => ?_) (fun c64 => ?_)
        · replace h := h.1 c64
          refine lv_aload hx hb dX5_putMany_105 (lv_at hl 8 rfl) ?_
          refine lv_iload hx hb dX5_putMany_107 (lv_at hl 1 rfl) ?_
          refine lv_iload hx hb dX5_putMany_109 (lv_at hl 0 rfl) ?_
          obtain ⟨c65, s66, g67, g68, h⟩ := h
          obtain ⟨g69, h⟩ := h
          refine xc_i (va_runV (As := [.int x55, .int x56]) (rest := []) ⟨hx, hb, hml, hown, hts⟩ (mt_X3_write l G base h) (cwV 2 hts gX5_putMany_X3_write rfl rfl rfl (by decide +kernel) ⟨Nat.le_of_ble_eq_true rfl, Nat.le_of_ble_eq_true rfl⟩) (xp_V hbase hh hK hX hS (ci := 3) g69 (by decide) rfl) rfl rfl hl.1 rfl (lv_room (Nat.le_of_ble_eq_true rfl)) dX5_putMany_111 ⟨by show _ ≤ MC; omega, by show _ ≤ MS; omega⟩) hS (fun r70 m71 H locs h hh hS => ?_)
          obtain ⟨kc72, ekc72⟩ : ∃ z : Nat, z = kc - c65 := ⟨_, rfl⟩
          obtain ⟨ks73, eks73⟩ : ∃ z : Nat, z = ks - s66 := ⟨_, rfl⟩
          replace h := h kc72 ks73 ekc72 eks73
          obtain ⟨cl74, ecl74⟩ : ∃ z : Nat, z = cl9 + c65 := ⟨_, rfl⟩
          obtain ⟨sl75, esl75⟩ : ∃ z : Nat, z = sl9 + s66 := ⟨_, rfl⟩
          refine W_cs ecl74 esl75 ?_
          have hcc : cl74 + kc72 ≤ MC := by omega
          have hss : sl75 + ks73 ≤ MS := by omega
          refine lv_pop hx hb dX5_putMany_114 rfl ?_
          obtain ⟨x76, ex76⟩ : ∃ y : Int32, y = l8 + 1 := ⟨_, rfl⟩
          replace h := h x76 ex76
          refine lv_iinc (v := x76) (lv' := [(8, .int x76), (10, .int x56), (9, .int x55), (0, .ref l0), (2, .int l2), (3, .int l3), (4, .int l4), (5, .int l5), (6, .int l6), (7, .ref l7)]) hx hb dX5_putMany_115 hl (k := 9) rfl (by rw [ex76]; rfl) (by decide) rfl (fun ls hl => ?_)
          refine lv_goto (tgt := 53) hx hb dX5_putMany_118 (by decide) ?_
          exact ih _ _ _ _ _ _ _ _ _ _ _ _ cl74 sl75 kc72 ks73 hcc hss h hh hS (lv_sub hl [3, 4, 5, 6, 7, 8, 9, 0] rfl)
        · replace h := h.2 c64
          refine lv_iload hx hb dX5_putMany_102 (lv_at hl 9 rfl) ?_
          exact vx_ret (xe_i hx hb hr hlocks hbase hh hK hX hS h (by omega) (by omega) dX5_putMany_104)

set_option maxHeartbeats 4000000 in
set_option maxRecDepth 100000 in
theorem mt_X5_putMany (l : Launch) (hl9 : l.stackTraces = false) (G : GG) (base : Nat) {a0 : Nat} {p1 : Int32} {p2 : Int32} {p3 : Int32} {p4 : Int32} {p5 : Int32} {p6 : Int32} {m0 : MM} {Q : Int32 → MM → Prop} {X : Nat → MM → Prop} {kc ks : Nat} (h : wp_X5_putMany a0 p1 p2 p3 p4 p5 p6 m0 Q X kc ks) : vx_Met l yX5_putMany wsX5_putMany ({ frames := 7, cells := kc, slots := ks, locals := 187 }) (va_Pc [.ref a0, .int p1, .int p2, .int p3, .int p4, .int p5, .int p6] (SP G base m0)) (va_Qi Q (HB G base) (xA base)) (xX G base X) kc ks (xA base) := by
  refine vx_ofW (cc := cX5_putMany) (maxL := 11) (ret := (some .int)) (by decide) rfl ?_
  intro p e s m args below meth c s₁ B hml hout hv
  obtain ⟨rfl, hbase, hh, hK, hX⟩ := hv
  have C0 : BC p s m _ meth c G base RX5 cX5_putMany 11 (some .int) wsX5_putMany := ⟨B.exec, B.bytes, B.returns, hml, findClass_of_methodNamed B.named, atoms_spec (ws := wsX5_putMany) B.pre, B.notSynchronized, hK, hbase, hX⟩
  obtain ⟨hx, hb, hr, -, hown, hts, hlocks, -, -, -⟩ := id C0
  have hS : va_S (xA base) s.heap s.heap [] := va_S.rf
  have hl := lv_entry ([.ref a0, .int p1, .int p2, .int p3, .int p4, .int p5, .int p6]) (n := 11) (Nat.le_of_ble_eq_true rfl)
  rw [lg_entry_eq]
  generalize (lg_sl ([.ref a0, .int p1, .int p2, .int p3, .int p4, .int p5, .int p6]) ++ List.replicate (11 - (lg_sl ([.ref a0, .int p1, .int p2, .int p3, .int p4, .int p5, .int p6])).length) Slot.unset).toArray = ls at hl ⊢
  have hl : lv_has ls 11 [(0, .ref a0), (1, .int p1), (2, .int p2), (3, .int p3), (4, .int p4), (5, .int p5), (6, .int p6)] := hl
  unfold wp_X5_putMany at h
  have hcc : 0 + kc ≤ kc := by omega
  have hss : 0 + ks ≤ ks := by omega
  refine lv_aload_n hx hb dX5_putMany_0 rfl (lv_at hl 0 rfl) ?_
  refine lv_iload_n hx hb dX5_putMany_1 rfl (lv_at hl 1 rfl) ?_
  obtain ⟨g1, g2, h⟩ := h
  obtain ⟨g3, h⟩ := h
  refine xt_q (vx_runV (As := [.int p1]) (rest := []) ⟨hx, hb, hml, hown, hts⟩ (mt_X5_seriesAt l hl9 G base h) (cwV 1 hts gX5_putMany_X5_seriesAt rfl rfl rfl (by decide +kernel) ⟨Nat.le_of_ble_eq_true rfl, Nat.le_of_ble_eq_true rfl⟩) (xp_V hbase hh hK hX hS (ci := 5) g3 (by decide) rfl) rfl rfl hl.1 rfl (lv_room (Nat.le_of_ble_eq_true rfl)) dX5_putMany_2 ⟨by show _ ≤ kc; omega, by show _ ≤ ks; omega⟩) hS (fun k9 m9 H locs q9 ce h hh hS hc9 hv9 hcl9 => xe_out hout hlocks hbase hh hK hX hS h hc9 hv9 hcl9 (by omega) (by omega)) (fun r4 m5 H locs h hh hS => ?_)
  obtain ⟨kc6, ekc6⟩ : ∃ z : Nat, z = kc - 1 := ⟨_, rfl⟩
  obtain ⟨ks7, eks7⟩ : ∃ z : Nat, z = ks - 6 := ⟨_, rfl⟩
  replace h := h kc6 ks7 ekc6 eks7
  obtain ⟨cl8, ecl8⟩ : ∃ z : Nat, z = 0 + 1 := ⟨_, rfl⟩
  obtain ⟨sl9, esl9⟩ : ∃ z : Nat, z = 0 + 6 := ⟨_, rfl⟩
  refine W_cs ecl8 esl9 ?_
  have hcc : cl8 + kc6 ≤ kc := by omega
  have hss : sl9 + ks7 ≤ ks := by omega
  obtain ⟨b10, eb10, h⟩ := h
  rw [eb10]
  refine W.eq (g2 := F0 m 5 ls [.ref b10]) rfl ?_
  refine lv_astore (lv' := [(7, .ref b10), (0, .ref a0), (1, .int p1), (2, .int p2), (3, .int p3), (4, .int p4), (5, .int p5), (6, .int p6)]) hx hb dX5_putMany_5 hl (by decide) rfl (fun ls hl => ?_)
  refine lv_aload_n hx hb dX5_putMany_7 rfl (lv_at hl 1 rfl) ?_
  refine lv_aload hx hb dX5_putMany_8 (lv_at hl 0 rfl) ?_
  refine lv_iload_n hx hb dX5_putMany_10 rfl (lv_at hl 3 rfl) ?_
  refine lv_iload_n hx hb dX5_putMany_11 rfl (lv_at hl 4 rfl) ?_
  obtain ⟨g11, g12, h⟩ := h
  obtain ⟨g13, h⟩ := h
  refine xt_v (vx_runV (As := [.ref b10, .int p2, .int p3]) (rest := []) ⟨hx, hb, hml, hown, hts⟩ (mt_X5_needPoint l hl9 G base h) (cwV 3 hts gX5_putMany_X5_needPoint rfl rfl rfl (by decide +kernel) ⟨Nat.le_of_ble_eq_true rfl, Nat.le_of_ble_eq_true rfl⟩) (xp_V hbase hh hK hX hS (ci := 5) g13 (by decide) rfl) rfl rfl hl.1 rfl (lv_room (Nat.le_of_ble_eq_true rfl)) dX5_putMany_12 ⟨by show _ ≤ kc; omega, by show _ ≤ ks; omega⟩) hS (fun k9 m9 H locs q9 ce h hh hS hc9 hv9 hcl9 => xe_out hout hlocks hbase hh hK hX hS h hc9 hv9 hcl9 (by omega) (by omega)) (fun m15 H locs h hh hS => ?_)
  obtain ⟨kc16, ekc16⟩ : ∃ z : Nat, z = kc6 - 1 := ⟨_, rfl⟩
  obtain ⟨ks17, eks17⟩ : ∃ z : Nat, z = ks7 - 6 := ⟨_, rfl⟩
  replace h := h kc16 ks17 ekc16 eks17
  obtain ⟨cl18, ecl18⟩ : ∃ z : Nat, z = cl8 + 1 := ⟨_, rfl⟩
  obtain ⟨sl19, esl19⟩ : ∃ z : Nat, z = sl9 + 6 := ⟨_, rfl⟩
  refine W_cs ecl18 esl19 ?_
  have hcc : cl18 + kc16 ≤ kc := by omega
  have hss : sl19 + ks17 ≤ ks := by omega
  refine lv_iload hx hb dX5_putMany_15 (lv_at hl 5 rfl) ?_
  refine lv_iconst (v := 1) hx hb dX5_putMany_17 (by decide) ?_
  refine lv_sipush (v := 3600) hx hb dX5_putMany_18 (by decide) ?_
  obtain ⟨g20, g21, h⟩ := h
  refine xt_v (vx_runS (As := [.int p4, .int (1 : Int32), .int (3600 : Int32)]) (rest := []) ⟨hx, hb, hml, hown, hts⟩ (mt_X5_needRange l hl9 G base h) (va_cwS 3 hts gX5_putMany_X5_needRange rfl rfl rfl (by decide +kernel) ⟨Nat.le_of_ble_eq_true rfl, Nat.le_of_ble_eq_true rfl⟩) (xp_S hbase hh hK hX hS) rfl rfl hl.1 rfl (lv_room (Nat.le_of_ble_eq_true rfl)) dX5_putMany_21 ⟨by show _ ≤ kc; omega, by show _ ≤ ks; omega⟩) hS (fun k9 m9 H locs q9 ce h hh hS hc9 hv9 hcl9 => xe_out hout hlocks hbase hh hK hX hS h hc9 hv9 hcl9 (by omega) (by omega)) (fun m23 H locs h hh hS => ?_)
  obtain ⟨kc24, ekc24⟩ : ∃ z : Nat, z = kc16 - 1 := ⟨_, rfl⟩
  obtain ⟨ks25, eks25⟩ : ∃ z : Nat, z = ks17 - 6 := ⟨_, rfl⟩
  replace h := h kc24 ks25 ekc24 eks25
  obtain ⟨cl26, ecl26⟩ : ∃ z : Nat, z = cl18 + 1 := ⟨_, rfl⟩
  obtain ⟨sl27, esl27⟩ : ∃ z : Nat, z = sl19 + 6 := ⟨_, rfl⟩
  refine W_cs ecl26 esl27 ?_
  have hcc : cl26 + kc24 ≤ kc := by omega
  have hss : sl27 + ks25 ≤ ks := by omega
  refine lv_iload hx hb dX5_putMany_24 (lv_at hl 6 rfl) ?_
  refine lv_sipush (v := -1000) hx hb dX5_putMany_26 (by decide) ?_
  refine lv_sipush (v := 1000) hx hb dX5_putMany_29 (by decide) ?_
  obtain ⟨g28, g29, h⟩ := h
  refine xt_v (vx_runS (As := [.int p5, .int (-1000 : Int32), .int (1000 : Int32)]) (rest := []) ⟨hx, hb, hml, hown, hts⟩ (mt_X5_needRange l hl9 G base h) (va_cwS 3 hts gX5_putMany_X5_needRange rfl rfl rfl (by decide +kernel) ⟨Nat.le_of_ble_eq_true rfl, Nat.le_of_ble_eq_true rfl⟩) (xp_S hbase hh hK hX hS) rfl rfl hl.1 rfl (lv_room (Nat.le_of_ble_eq_true rfl)) dX5_putMany_32 ⟨by show _ ≤ kc; omega, by show _ ≤ ks; omega⟩) hS (fun k9 m9 H locs q9 ce h hh hS hc9 hv9 hcl9 => xe_out hout hlocks hbase hh hK hX hS h hc9 hv9 hcl9 (by omega) (by omega)) (fun m31 H locs h hh hS => ?_)
  obtain ⟨kc32, ekc32⟩ : ∃ z : Nat, z = kc24 - 1 := ⟨_, rfl⟩
  obtain ⟨ks33, eks33⟩ : ∃ z : Nat, z = ks25 - 6 := ⟨_, rfl⟩
  replace h := h kc32 ks33 ekc32 eks33
  obtain ⟨cl34, ecl34⟩ : ∃ z : Nat, z = cl26 + 1 := ⟨_, rfl⟩
  obtain ⟨sl35, esl35⟩ : ∃ z : Nat, z = sl27 + 6 := ⟨_, rfl⟩
  refine W_cs ecl34 esl35 ?_
  have hcc : cl34 + kc32 ≤ kc := by omega
  have hss : sl35 + ks33 ≤ ks := by omega
  refine lv_iload hx hb dX5_putMany_35 (lv_at hl 7 rfl) ?_
  refine lv_iconst (v := 1) hx hb dX5_putMany_37 (by decide) ?_
  refine lv_bipush (v := 20) hx hb dX5_putMany_38 (by decide) ?_
  obtain ⟨g36, g37, h⟩ := h
  refine xt_v (vx_runS (As := [.int p6, .int (1 : Int32), .int (20 : Int32)]) (rest := []) ⟨hx, hb, hml, hown, hts⟩ (mt_X5_needRange l hl9 G base h) (va_cwS 3 hts gX5_putMany_X5_needRange rfl rfl rfl (by decide +kernel) ⟨Nat.le_of_ble_eq_true rfl, Nat.le_of_ble_eq_true rfl⟩) (xp_S hbase hh hK hX hS) rfl rfl hl.1 rfl (lv_room (Nat.le_of_ble_eq_true rfl)) dX5_putMany_40 ⟨by show _ ≤ kc; omega, by show _ ≤ ks; omega⟩) hS (fun k9 m9 H locs q9 ce h hh hS hc9 hv9 hcl9 => xe_out hout hlocks hbase hh hK hX hS h hc9 hv9 hcl9 (by omega) (by omega)) (fun m39 H locs h hh hS => ?_)
  obtain ⟨kc40, ekc40⟩ : ∃ z : Nat, z = kc32 - 1 := ⟨_, rfl⟩
  obtain ⟨ks41, eks41⟩ : ∃ z : Nat, z = ks33 - 6 := ⟨_, rfl⟩
  replace h := h kc40 ks41 ekc40 eks41
  obtain ⟨cl42, ecl42⟩ : ∃ z : Nat, z = cl34 + 1 := ⟨_, rfl⟩
  obtain ⟨sl43, esl43⟩ : ∃ z : Nat, z = sl35 + 6 := ⟨_, rfl⟩
  refine W_cs ecl42 esl43 ?_
  have hcc : cl42 + kc40 ≤ kc := by omega
  have hss : sl43 + ks41 ≤ ks := by omega
  refine lv_aload_n hx hb dX5_putMany_43 rfl (lv_at hl 1 rfl) ?_
  refine lv_aload hx hb dX5_putMany_44 (lv_at hl 0 rfl) ?_
  refine lv_iload_n hx hb dX5_putMany_46 rfl (lv_at hl 3 rfl) ?_
  obtain ⟨g44, g45, h⟩ := h
  obtain ⟨g46, h⟩ := h
  refine xt_v (vx_runV (As := [.ref b10, .int p2]) (rest := []) ⟨hx, hb, hml, hown, hts⟩ (mt_X5_needPlace l hl9 G base h) (cwV 2 hts gX5_putMany_X5_needPlace rfl rfl rfl (by decide +kernel) ⟨Nat.le_of_ble_eq_true rfl, Nat.le_of_ble_eq_true rfl⟩) (xp_V hbase hh hK hX hS (ci := 5) g46 (by decide) rfl) rfl rfl hl.1 rfl (lv_room (Nat.le_of_ble_eq_true rfl)) dX5_putMany_47 ⟨by show _ ≤ kc; omega, by show _ ≤ ks; omega⟩) hS (fun k9 m9 H locs q9 ce h hh hS hc9 hv9 hcl9 => xe_out hout hlocks hbase hh hK hX hS h hc9 hv9 hcl9 (by omega) (by omega)) (fun m48 H locs h hh hS => ?_)
  obtain ⟨kc49, ekc49⟩ : ∃ z : Nat, z = kc40 - 1 := ⟨_, rfl⟩
  obtain ⟨ks50, eks50⟩ : ∃ z : Nat, z = ks41 - 6 := ⟨_, rfl⟩
  replace h := h kc49 ks50 ekc49 eks50
  obtain ⟨cl51, ecl51⟩ : ∃ z : Nat, z = cl42 + 1 := ⟨_, rfl⟩
  obtain ⟨sl52, esl52⟩ : ∃ z : Nat, z = sl43 + 6 := ⟨_, rfl⟩
  refine W_cs ecl51 esl52 ?_
  have hcc : cl51 + kc49 ≤ kc := by omega
  have hss : sl52 + ks50 ≤ ks := by omega
  refine lv_iconst (v := 0) hx hb dX5_putMany_50 (by decide) ?_
  refine lv_topi (fun x53 ex53 => ?_)
  replace h := h x53 ex53
  refine lv_istore (lv' := [(8, .int x53), (7, .ref b10), (0, .ref a0), (1, .int p1), (2, .int p2), (3, .int p3), (4, .int p4), (5, .int p5), (6, .int p6)]) hx hb dX5_putMany_51 hl (by decide) rfl (fun ls hl => ?_)
  obtain ⟨n9, h⟩ := h
  exact bk_X5_putMany_53 C0 hl9 hout  n9 _ _ _ _ _ _ _ _ _ _ _ _ cl51 sl52 kc49 ks50 hcc hss h hh hS (lv_sub hl [2, 4, 5, 6, 7, 8, 1, 0] rfl)

set_option maxHeartbeats 4000000 in
set_option maxRecDepth 100000 in
theorem bkq_X5_putMany_53 {p : Program} {l : Launch} {e : Env} {s : State} {m : MethodId} {args : Array Value} {below : List Frame} {meth : Method} {c : Code} {G : GG} {base : Nat} {MC MS : Nat} (C0 : BC p s m args meth c G base RX5 cX5_putMany 11 (some .int) wsX5_putMany) {Q : Int32 → MM → Prop} : ∀ (n : Nat) (l0 : Nat) (l2 : Int32) (l3 : Int32) (l4 : Int32) (l5 : Int32) (l6 : Int32) (l7 : Nat) (l8 : Int32) (m0 : MM) (H : Heap) (locs : List Loc) (ls : Array Slot) (cl9 sl9 kc ks : Nat) (hcc : cl9 + kc ≤ MC) (hss : sl9 + ks ≤ MS), wp_X5_putMany_53 Q (fun _ _ => False) n l0 l2 l3 l4 l5 l6 l7 l8 m0 kc ks → hp G (xA base) m0 H → va_S (xA base) s.heap H locs → lv_has ls 11 [(0, .ref l0), (2, .int l2), (3, .int l3), (4, .int l4), (5, .int l5), (6, .int l6), (7, .ref l7), (8, .int l8)] → W p l e ({ frames := 7, cells := MC, slots := MS, locals := 187 } : Room) s m args below meth c H locs cl9 sl9 (MQ below (va_Qi Q (HB G base) (xA base)) args s MC MS (xA base)) (F0 m 53 ls []) := by
  obtain ⟨hx, hb, hr, hml, hown, hts, hlocks, hK, hbase, hX⟩ := id C0
  intro n
  induction n with
  | zero =>
    intro l0 l2 l3 l4 l5 l6 l7 l8 m0 H locs ls cl9 sl9 kc ks hcc hss h
    unfold wp_X5_putMany_53 at h
    exact h.elim
  | succ n ih =>
    intro l0 l2 l3 l4 l5 l6 l7 l8 m0 H locs ls cl9 sl9 kc ks hcc hss h hh hS hl
    unfold wp_X5_putMany_53 at h
    refine lv_iload hx hb dX5_putMany_53 (lv_at hl 7 rfl) ?_
    refine lv_iload hx hb dX5_putMany_55 (lv_at hl 5 rfl) ?_
    refine lv_icmp_ge (tgt := 121) hx hb dX5_putMany_57 (by decide) (fun c54 => ?_) (fun c54 => ?_)
    · replace h := h.1 c54
      refine lv_iload hx hb dX5_putMany_121 (lv_at hl 5 rfl) ?_
      exact (xe_i hx hb hr hlocks hbase hh hK hX hS h (by omega) (by omega) dX5_putMany_123)
    · replace h := h.2 c54
      refine lv_iload_n hx hb dX5_putMany_60 rfl (lv_at hl 1 rfl) ?_
      refine lv_iload hx hb dX5_putMany_61 (lv_at hl 7 rfl) ?_
      refine lv_iload hx hb dX5_putMany_63 (lv_at hl 3 rfl) ?_
      refine lv_imul hx hb dX5_putMany_65 ?_
      refine lv_iadd hx hb dX5_putMany_66 ?_
      refine lv_topi (fun x55 ex55 => ?_)
      replace h := h x55 ex55
      refine lv_istore (lv' := [(9, .int x55), (0, .ref l0), (2, .int l2), (3, .int l3), (4, .int l4), (5, .int l5), (6, .int l6), (7, .ref l7), (8, .int l8)]) hx hb dX5_putMany_67 hl (by decide) rfl (fun ls hl => ?_)
      refine lv_iload_n hx hb dX5_putMany_69 rfl (lv_at hl 3 rfl) ?_
      refine lv_iload hx hb dX5_putMany_70 (lv_at hl 8 rfl) ?_
      refine lv_iload hx hb dX5_putMany_72 (lv_at hl 5 rfl) ?_
      refine lv_imul hx hb dX5_putMany_74 ?_
      refine lv_iadd hx hb dX5_putMany_75 ?_
      refine lv_topi (fun x56 ex56 => ?_)
      replace h := h x56 ex56
      refine lv_istore (lv' := [(10, .int x56), (9, .int x55), (0, .ref l0), (2, .int l2), (3, .int l3), (4, .int l4), (5, .int l5), (6, .int l6), (7, .ref l7), (8, .int l8)]) hx hb dX5_putMany_76 hl (by decide) rfl (fun ls hl => ?_)
      refine lv_aload_n hx hb dX5_putMany_78 rfl (lv_at hl 2 rfl) ?_
      refine lv_aload hx hb dX5_putMany_79 (lv_at hl 8 rfl) ?_
      refine lv_iload hx hb dX5_putMany_81 (lv_at hl 1 rfl) ?_
      refine lv_iload hx hb dX5_putMany_83 (lv_at hl 0 rfl) ?_
      obtain ⟨g57, h⟩ := h
      refine xc_i (va_runV (As := [.ref l7, .int x55, .int x56]) (rest := []) ⟨hx, hb, hml, hown, hts⟩ (mt_X5_isPoint l G base h) (cwV 3 hts gX5_putMany_X5_isPoint rfl rfl rfl (by decide +kernel) ⟨Nat.le_of_ble_eq_true rfl, Nat.le_of_ble_eq_true rfl⟩) (xp_V hbase hh hK hX hS (ci := 5) g57 (by decide) rfl) rfl rfl hl.1 rfl (lv_room (Nat.le_of_ble_eq_true rfl)) dX5_putMany_85 ⟨by show _ ≤ MC; omega, by show _ ≤ MS; omega⟩) hS (fun r58 m59 H locs h hh hS => ?_)
      refine lv_if_eq (tgt := 102) hx hb dX5_putMany_88 (by decide) (fun c60 => ?_) (fun c60 => ?_)
      · replace h := h.1 c60
        refine lv_iload hx hb dX5_putMany_102 (lv_at hl 9 rfl) ?_
        exact (xe_i hx hb hr hlocks hbase hh hK hX hS h (by omega) (by omega) dX5_putMany_104)
      · replace h := h.2 c60
        refine lv_aload_n hx hb dX5_putMany_91 rfl (lv_at hl 2 rfl) ?_
        refine lv_aload hx hb dX5_putMany_92 (lv_at hl 8 rfl) ?_
        refine lv_iload hx hb dX5_putMany_94 (lv_at hl 1 rfl) ?_
        obtain ⟨g61, h⟩ := h
        refine xc_i (va_runV (As := [.ref l7, .int x55]) (rest := []) ⟨hx, hb, hml, hown, hts⟩ (mt_X5_hasPlace l G base h) (cwV 2 hts gX5_putMany_X5_hasPlace rfl rfl rfl (by decide +kernel) ⟨Nat.le_of_ble_eq_true rfl, Nat.le_of_ble_eq_true rfl⟩) (xp_V hbase hh hK hX hS (ci := 5) g61 (by decide) rfl) rfl rfl hl.1 rfl (lv_room (Nat.le_of_ble_eq_true rfl)) dX5_putMany_96 ⟨by show _ ≤ MC; omega, by show _ ≤ MS; omega⟩) hS (fun r62 m63 H locs h hh hS => ?_)
        refine lv_if_ne (tgt := 105) hx hb dX5_putMany_99 (by decide) (fun c64 => ?_) (fun c64 => ?_)
        · replace h := h.1 c64
          refine lv_aload hx hb dX5_putMany_105 (lv_at hl 8 rfl) ?_
          refine lv_iload hx hb dX5_putMany_107 (lv_at hl 1 rfl) ?_
          refine lv_iload hx hb dX5_putMany_109 (lv_at hl 0 rfl) ?_
          obtain ⟨c65, s66, g67, g68, h⟩ := h
          obtain ⟨g69, h⟩ := h
          refine xc_i (va_runV (As := [.int x55, .int x56]) (rest := []) ⟨hx, hb, hml, hown, hts⟩ (mt_X3_write l G base h) (cwV 2 hts gX5_putMany_X3_write rfl rfl rfl (by decide +kernel) ⟨Nat.le_of_ble_eq_true rfl, Nat.le_of_ble_eq_true rfl⟩) (xp_V hbase hh hK hX hS (ci := 3) g69 (by decide) rfl) rfl rfl hl.1 rfl (lv_room (Nat.le_of_ble_eq_true rfl)) dX5_putMany_111 ⟨by show _ ≤ MC; omega, by show _ ≤ MS; omega⟩) hS (fun r70 m71 H locs h hh hS => ?_)
          obtain ⟨kc72, ekc72⟩ : ∃ z : Nat, z = kc - c65 := ⟨_, rfl⟩
          obtain ⟨ks73, eks73⟩ : ∃ z : Nat, z = ks - s66 := ⟨_, rfl⟩
          replace h := h kc72 ks73 ekc72 eks73
          obtain ⟨cl74, ecl74⟩ : ∃ z : Nat, z = cl9 + c65 := ⟨_, rfl⟩
          obtain ⟨sl75, esl75⟩ : ∃ z : Nat, z = sl9 + s66 := ⟨_, rfl⟩
          refine W_cs ecl74 esl75 ?_
          have hcc : cl74 + kc72 ≤ MC := by omega
          have hss : sl75 + ks73 ≤ MS := by omega
          refine lv_pop hx hb dX5_putMany_114 rfl ?_
          obtain ⟨x76, ex76⟩ : ∃ y : Int32, y = l8 + 1 := ⟨_, rfl⟩
          replace h := h x76 ex76
          refine lv_iinc (v := x76) (lv' := [(8, .int x76), (10, .int x56), (9, .int x55), (0, .ref l0), (2, .int l2), (3, .int l3), (4, .int l4), (5, .int l5), (6, .int l6), (7, .ref l7)]) hx hb dX5_putMany_115 hl (k := 9) rfl (by rw [ex76]; rfl) (by decide) rfl (fun ls hl => ?_)
          refine lv_goto (tgt := 53) hx hb dX5_putMany_118 (by decide) ?_
          exact ih _ _ _ _ _ _ _ _ _ _ _ _ cl74 sl75 kc72 ks73 hcc hss h hh hS (lv_sub hl [3, 4, 5, 6, 7, 8, 9, 0] rfl)
        · replace h := h.2 c64
          refine lv_iload hx hb dX5_putMany_102 (lv_at hl 9 rfl) ?_
          exact (xe_i hx hb hr hlocks hbase hh hK hX hS h (by omega) (by omega) dX5_putMany_104)

set_option maxHeartbeats 4000000 in
set_option maxRecDepth 100000 in
theorem mtq_X5_putMany (l : Launch) (G : GG) (base : Nat) {a0 : Nat} {p1 : Int32} {p2 : Int32} {p3 : Int32} {p4 : Int32} {p5 : Int32} {p6 : Int32} {m0 : MM} {Q : Int32 → MM → Prop} {kc ks : Nat} (h : wp_X5_putMany a0 p1 p2 p3 p4 p5 p6 m0 Q (fun _ _ => False) kc ks) : Met l yX5_putMany wsX5_putMany ({ frames := 7, cells := kc, slots := ks, locals := 187 }) (va_Pc [.ref a0, .int p1, .int p2, .int p3, .int p4, .int p5, .int p6] (SP G base m0)) (va_Qi Q (HB G base) (xA base)) kc ks (xA base) := by
  refine Met.ofW (cc := cX5_putMany) (maxL := 11) (ret := (some .int)) (by decide) rfl ?_
  intro p e s m args below meth c s₁ B hml hv
  obtain ⟨rfl, hbase, hh, hK, hX⟩ := hv
  have C0 : BC p s m _ meth c G base RX5 cX5_putMany 11 (some .int) wsX5_putMany := ⟨B.exec, B.bytes, B.returns, hml, findClass_of_methodNamed B.named, atoms_spec (ws := wsX5_putMany) B.pre, B.notSynchronized, hK, hbase, hX⟩
  obtain ⟨hx, hb, hr, -, hown, hts, hlocks, -, -, -⟩ := id C0
  have hS : va_S (xA base) s.heap s.heap [] := va_S.rf
  have hl := lv_entry ([.ref a0, .int p1, .int p2, .int p3, .int p4, .int p5, .int p6]) (n := 11) (Nat.le_of_ble_eq_true rfl)
  rw [lg_entry_eq]
  generalize (lg_sl ([.ref a0, .int p1, .int p2, .int p3, .int p4, .int p5, .int p6]) ++ List.replicate (11 - (lg_sl ([.ref a0, .int p1, .int p2, .int p3, .int p4, .int p5, .int p6])).length) Slot.unset).toArray = ls at hl ⊢
  have hl : lv_has ls 11 [(0, .ref a0), (1, .int p1), (2, .int p2), (3, .int p3), (4, .int p4), (5, .int p5), (6, .int p6)] := hl
  unfold wp_X5_putMany at h
  have hcc : 0 + kc ≤ kc := by omega
  have hss : 0 + ks ≤ ks := by omega
  refine lv_aload_n hx hb dX5_putMany_0 rfl (lv_at hl 0 rfl) ?_
  refine lv_iload_n hx hb dX5_putMany_1 rfl (lv_at hl 1 rfl) ?_
  obtain ⟨g1, g2, h⟩ := h
  obtain ⟨g3, h⟩ := h
  refine xc_q (va_runV (As := [.int p1]) (rest := []) ⟨hx, hb, hml, hown, hts⟩ (mtq_X5_seriesAt l G base h) (cwV 1 hts gX5_putMany_X5_seriesAt rfl rfl rfl (by decide +kernel) ⟨Nat.le_of_ble_eq_true rfl, Nat.le_of_ble_eq_true rfl⟩) (xp_V hbase hh hK hX hS (ci := 5) g3 (by decide) rfl) rfl rfl hl.1 rfl (lv_room (Nat.le_of_ble_eq_true rfl)) dX5_putMany_2 ⟨by show _ ≤ kc; omega, by show _ ≤ ks; omega⟩) hS (fun r4 m5 H locs h hh hS => ?_)
  refine W.widen (k := 0 + 1) (n := 0 + 6) (by omega) (by omega) ?_
  obtain ⟨kc6, ekc6⟩ : ∃ z : Nat, z = kc - 1 := ⟨_, rfl⟩
  obtain ⟨ks7, eks7⟩ : ∃ z : Nat, z = ks - 6 := ⟨_, rfl⟩
  replace h := h kc6 ks7 ekc6 eks7
  obtain ⟨cl8, ecl8⟩ : ∃ z : Nat, z = 0 + 1 := ⟨_, rfl⟩
  obtain ⟨sl9, esl9⟩ : ∃ z : Nat, z = 0 + 6 := ⟨_, rfl⟩
  refine W_cs ecl8 esl9 ?_
  have hcc : cl8 + kc6 ≤ kc := by omega
  have hss : sl9 + ks7 ≤ ks := by omega
  obtain ⟨b10, eb10, h⟩ := h
  rw [eb10]
  refine W.eq (g2 := F0 m 5 ls [.ref b10]) rfl ?_
  refine lv_astore (lv' := [(7, .ref b10), (0, .ref a0), (1, .int p1), (2, .int p2), (3, .int p3), (4, .int p4), (5, .int p5), (6, .int p6)]) hx hb dX5_putMany_5 hl (by decide) rfl (fun ls hl => ?_)
  refine lv_aload_n hx hb dX5_putMany_7 rfl (lv_at hl 1 rfl) ?_
  refine lv_aload hx hb dX5_putMany_8 (lv_at hl 0 rfl) ?_
  refine lv_iload_n hx hb dX5_putMany_10 rfl (lv_at hl 3 rfl) ?_
  refine lv_iload_n hx hb dX5_putMany_11 rfl (lv_at hl 4 rfl) ?_
  obtain ⟨g11, g12, h⟩ := h
  obtain ⟨g13, h⟩ := h
  refine xc_v (va_runV (As := [.ref b10, .int p2, .int p3]) (rest := []) ⟨hx, hb, hml, hown, hts⟩ (mtq_X5_needPoint l G base h) (cwV 3 hts gX5_putMany_X5_needPoint rfl rfl rfl (by decide +kernel) ⟨Nat.le_of_ble_eq_true rfl, Nat.le_of_ble_eq_true rfl⟩) (xp_V hbase hh hK hX hS (ci := 5) g13 (by decide) rfl) rfl rfl hl.1 rfl (lv_room (Nat.le_of_ble_eq_true rfl)) dX5_putMany_12 ⟨by show _ ≤ kc; omega, by show _ ≤ ks; omega⟩) hS (fun m15 H locs h hh hS => ?_)
  refine W.widen (k := cl8 + 1) (n := sl9 + 6) (by omega) (by omega) ?_
  obtain ⟨kc16, ekc16⟩ : ∃ z : Nat, z = kc6 - 1 := ⟨_, rfl⟩
  obtain ⟨ks17, eks17⟩ : ∃ z : Nat, z = ks7 - 6 := ⟨_, rfl⟩
  replace h := h kc16 ks17 ekc16 eks17
  obtain ⟨cl18, ecl18⟩ : ∃ z : Nat, z = cl8 + 1 := ⟨_, rfl⟩
  obtain ⟨sl19, esl19⟩ : ∃ z : Nat, z = sl9 + 6 := ⟨_, rfl⟩
  refine W_cs ecl18 esl19 ?_
  have hcc : cl18 + kc16 ≤ kc := by omega
  have hss : sl19 + ks17 ≤ ks := by omega
  refine lv_iload hx hb dX5_putMany_15 (lv_at hl 5 rfl) ?_
  refine lv_iconst (v := 1) hx hb dX5_putMany_17 (by decide) ?_
  refine lv_sipush (v := 3600) hx hb dX5_putMany_18 (by decide) ?_
  obtain ⟨g20, g21, h⟩ := h
  refine xc_v (va_runS (As := [.int p4, .int (1 : Int32), .int (3600 : Int32)]) (rest := []) ⟨hx, hb, hml, hown, hts⟩ (mtq_X5_needRange l G base h) (va_cwS 3 hts gX5_putMany_X5_needRange rfl rfl rfl (by decide +kernel) ⟨Nat.le_of_ble_eq_true rfl, Nat.le_of_ble_eq_true rfl⟩) (xp_S hbase hh hK hX hS) rfl rfl hl.1 rfl (lv_room (Nat.le_of_ble_eq_true rfl)) dX5_putMany_21 ⟨by show _ ≤ kc; omega, by show _ ≤ ks; omega⟩) hS (fun m23 H locs h hh hS => ?_)
  refine W.widen (k := cl18 + 1) (n := sl19 + 6) (by omega) (by omega) ?_
  obtain ⟨kc24, ekc24⟩ : ∃ z : Nat, z = kc16 - 1 := ⟨_, rfl⟩
  obtain ⟨ks25, eks25⟩ : ∃ z : Nat, z = ks17 - 6 := ⟨_, rfl⟩
  replace h := h kc24 ks25 ekc24 eks25
  obtain ⟨cl26, ecl26⟩ : ∃ z : Nat, z = cl18 + 1 := ⟨_, rfl⟩
  obtain ⟨sl27, esl27⟩ : ∃ z : Nat, z = sl19 + 6 := ⟨_, rfl⟩
  refine W_cs ecl26 esl27 ?_
  have hcc : cl26 + kc24 ≤ kc := by omega
  have hss : sl27 + ks25 ≤ ks := by omega
  refine lv_iload hx hb dX5_putMany_24 (lv_at hl 6 rfl) ?_
  refine lv_sipush (v := -1000) hx hb dX5_putMany_26 (by decide) ?_
  refine lv_sipush (v := 1000) hx hb dX5_putMany_29 (by decide) ?_
  obtain ⟨g28, g29, h⟩ := h
  refine xc_v (va_runS (As := [.int p5, .int (-1000 : Int32), .int (1000 : Int32)]) (rest := []) ⟨hx, hb, hml, hown, hts⟩ (mtq_X5_needRange l G base h) (va_cwS 3 hts gX5_putMany_X5_needRange rfl rfl rfl (by decide +kernel) ⟨Nat.le_of_ble_eq_true rfl, Nat.le_of_ble_eq_true rfl⟩) (xp_S hbase hh hK hX hS) rfl rfl hl.1 rfl (lv_room (Nat.le_of_ble_eq_true rfl)) dX5_putMany_32 ⟨by show _ ≤ kc; omega, by show _ ≤ ks; omega⟩) hS (fun m31 H locs h hh hS => ?_)
  refine W.widen (k := cl26 + 1) (n := sl27 + 6) (by omega) (by omega) ?_
  obtain ⟨kc32, ekc32⟩ : ∃ z : Nat, z = kc24 - 1 := ⟨_, rfl⟩
  obtain ⟨ks33, eks33⟩ : ∃ z : Nat, z = ks25 - 6 := ⟨_, rfl⟩
  replace h := h kc32 ks33 ekc32 eks33
  obtain ⟨cl34, ecl34⟩ : ∃ z : Nat, z = cl26 + 1 := ⟨_, rfl⟩
  obtain ⟨sl35, esl35⟩ : ∃ z : Nat, z = sl27 + 6 := ⟨_, rfl⟩
  refine W_cs ecl34 esl35 ?_
  have hcc : cl34 + kc32 ≤ kc := by omega
  have hss : sl35 + ks33 ≤ ks := by omega
  refine lv_iload hx hb dX5_putMany_35 (lv_at hl 7 rfl) ?_
  refine lv_iconst (v := 1) hx hb dX5_putMany_37 (by decide) ?_
  refine lv_bipush (v := 20) hx hb dX5_putMany_38 (by decide) ?_
  obtain ⟨g36, g37, h⟩ := h
  refine xc_v (va_runS (As := [.int p6, .int (1 : Int32), .int (20 : Int32)]) (rest := []) ⟨hx, hb, hml, hown, hts⟩ (mtq_X5_needRange l G base h) (va_cwS 3 hts gX5_putMany_X5_needRange rfl rfl rfl (by decide +kernel) ⟨Nat.le_of_ble_eq_true rfl, Nat.le_of_ble_eq_true rfl⟩) (xp_S hbase hh hK hX hS) rfl rfl hl.1 rfl (lv_room (Nat.le_of_ble_eq_true rfl)) dX5_putMany_40 ⟨by show _ ≤ kc; omega, by show _ ≤ ks; omega⟩) hS (fun m39 H locs h hh hS => ?_)
  refine W.widen (k := cl34 + 1) (n := sl35 + 6) (by omega) (by omega) ?_
  obtain ⟨kc40, ekc40⟩ : ∃ z : Nat, z = kc32 - 1 := ⟨_, rfl⟩
  obtain ⟨ks41, eks41⟩ : ∃ z : Nat, z = ks33 - 6 := ⟨_, rfl⟩
  replace h := h kc40 ks41 ekc40 eks41
  obtain ⟨cl42, ecl42⟩ : ∃ z : Nat, z = cl34 + 1 := ⟨_, rfl⟩
  obtain ⟨sl43, esl43⟩ : ∃ z : Nat, z = sl35 + 6 := ⟨_, rfl⟩
  refine W_cs ecl42 esl43 ?_
  have hcc : cl42 + kc40 ≤ kc := by omega
  have hss : sl43 + ks41 ≤ ks := by omega
  refine lv_aload_n hx hb dX5_putMany_43 rfl (lv_at hl 1 rfl) ?_
  refine lv_aload hx hb dX5_putMany_44 (lv_at hl 0 rfl) ?_
  refine lv_iload_n hx hb dX5_putMany_46 rfl (lv_at hl 3 rfl) ?_
  obtain ⟨g44, g45, h⟩ := h
  obtain ⟨g46, h⟩ := h
  refine xc_v (va_runV (As := [.ref b10, .int p2]) (rest := []) ⟨hx, hb, hml, hown, hts⟩ (mtq_X5_needPlace l G base h) (cwV 2 hts gX5_putMany_X5_needPlace rfl rfl rfl (by decide +kernel) ⟨Nat.le_of_ble_eq_true rfl, Nat.le_of_ble_eq_true rfl⟩) (xp_V hbase hh hK hX hS (ci := 5) g46 (by decide) rfl) rfl rfl hl.1 rfl (lv_room (Nat.le_of_ble_eq_true rfl)) dX5_putMany_47 ⟨by show _ ≤ kc; omega, by show _ ≤ ks; omega⟩) hS (fun m48 H locs h hh hS => ?_)
  refine W.widen (k := cl42 + 1) (n := sl43 + 6) (by omega) (by omega) ?_
  obtain ⟨kc49, ekc49⟩ : ∃ z : Nat, z = kc40 - 1 := ⟨_, rfl⟩
  obtain ⟨ks50, eks50⟩ : ∃ z : Nat, z = ks41 - 6 := ⟨_, rfl⟩
  replace h := h kc49 ks50 ekc49 eks50
  obtain ⟨cl51, ecl51⟩ : ∃ z : Nat, z = cl42 + 1 := ⟨_, rfl⟩
  obtain ⟨sl52, esl52⟩ : ∃ z : Nat, z = sl43 + 6 := ⟨_, rfl⟩
  refine W_cs ecl51 esl52 ?_
  have hcc : cl51 + kc49 ≤ kc := by omega
  have hss : sl52 + ks50 ≤ ks := by omega
  refine lv_iconst (v := 0) hx hb dX5_putMany_50 (by decide) ?_
  refine lv_topi (fun x53 ex53 => ?_)
  replace h := h x53 ex53
  refine lv_istore (lv' := [(8, .int x53), (7, .ref b10), (0, .ref a0), (1, .int p1), (2, .int p2), (3, .int p3), (4, .int p4), (5, .int p5), (6, .int p6)]) hx hb dX5_putMany_51 hl (by decide) rfl (fun ls hl => ?_)
  obtain ⟨n9, h⟩ := h
  exact bkq_X5_putMany_53 C0  n9 _ _ _ _ _ _ _ _ _ _ _ _ cl51 sl52 kc49 ks50 hcc hss h hh hS (lv_sub hl [2, 4, 5, 6, 7, 8, 1, 0] rfl)

set_option maxHeartbeats 4000000 in
set_option maxRecDepth 100000 in
theorem mt_X3_erasePoint (l : Launch) (G : GG) (base : Nat) {a0 : Nat} {p1 : Int32} {p2 : Int32} {m0 : MM} {Q : MM → Prop} {kc ks : Nat} (h : wp_X3_erasePoint a0 p1 p2 m0 Q kc ks) : Met l yX3_erasePoint wsX3_erasePoint ({ frames := 5, cells := kc, slots := ks, locals := 164 }) (va_Pc [.ref a0, .int p1, .int p2] (SP G base m0)) (va_Qv Q (HB G base) (xA base)) kc ks (xA base) := by
  refine Met.ofW (cc := cX3_erasePoint) (maxL := 3) (ret := none) (by decide) rfl ?_
  intro p e s m args below meth c s₁ B hml hv
  obtain ⟨rfl, hbase, hh, hK, hX⟩ := hv
  have C0 : BC p s m _ meth c G base RX3 cX3_erasePoint 3 none wsX3_erasePoint := ⟨B.exec, B.bytes, B.returns, hml, findClass_of_methodNamed B.named, atoms_spec (ws := wsX3_erasePoint) B.pre, B.notSynchronized, hK, hbase, hX⟩
  obtain ⟨hx, hb, hr, -, hown, hts, hlocks, -, -, -⟩ := id C0
  have hS : va_S (xA base) s.heap s.heap [] := va_S.rf
  have hl := lv_entry ([.ref a0, .int p1, .int p2]) (n := 3) (Nat.le_of_ble_eq_true rfl)
  rw [lg_entry_eq]
  generalize (lg_sl ([.ref a0, .int p1, .int p2]) ++ List.replicate (3 - (lg_sl ([.ref a0, .int p1, .int p2])).length) Slot.unset).toArray = ls at hl ⊢
  have hl : lv_has ls 3 [(0, .ref a0), (1, .int p1), (2, .int p2)] := hl
  unfold wp_X3_erasePoint at h
  have hcc : 0 + kc ≤ kc := by omega
  have hss : 0 + ks ≤ ks := by omega
  have hL3 : ∀ w ∈ u_ws RX3 TX3 5, w.before _ s = true := fun w h9 => hts w (List.mem_cons_of_mem _ (List.mem_append_left _ (List.mem_append_left _ (List.mem_append_left _ (List.mem_append_right _ (h9))))))
  have q2 : (Cond.fieldLink RX3 12 "RollupStore$Series" "points" "LRollupStore$Points;").before _ s = true := hts _ (List.mem_cons_of_mem _ (List.mem_append_left _ (List.mem_append_left _ (List.mem_append_left _ (List.mem_append_left _ (List.mem_append_left _ (List.mem_of_getElem? (i := 0) rfl)))))))
  refine lv_aload_n hx hb dX3_erasePoint_0 rfl (lv_at hl 0 rfl) ?_
  obtain ⟨g1, h⟩ := h
  obtain ⟨b2, eb2, h⟩ := h
  refine xr_getR (ci := 3) (C := RX3) (T := TX3) (N := 5) hx hb hL3 hown hK hh g1 (by decide) rfl 1 61 rfl rfl (by decide) (by decide) q2 (fun _ h9 => h9) eb2 dX3_erasePoint_1 ?_
  refine lv_iload_n hx hb dX3_erasePoint_4 rfl (lv_at hl 1 rfl) ?_
  refine lv_iconst (v := 1) hx hb dX3_erasePoint_5 (by decide) ?_
  obtain ⟨g3, h⟩ := h
  refine xc_v (va_runV (As := [.int p1, .int (1 : Int32)]) (rest := []) ⟨hx, hb, hml, hown, hts⟩ (mt_X0_remove l G base h) (cwV 2 hts gX3_erasePoint_X0_remove rfl rfl rfl (by decide +kernel) ⟨Nat.le_of_ble_eq_true rfl, Nat.le_of_ble_eq_true rfl⟩) (xp_V hbase hh hK hX hS (ci := 0) g3 (by decide) rfl) rfl rfl hl.1 rfl (lv_room (Nat.le_of_ble_eq_true rfl)) dX3_erasePoint_6 ⟨by show _ ≤ kc; omega, by show _ ≤ ks; omega⟩) hS (fun m5 H locs h hh hS => ?_)
  refine lv_aload_n hx hb dX3_erasePoint_9 rfl (lv_at hl 0 rfl) ?_
  refine lv_iload_n hx hb dX3_erasePoint_10 rfl (lv_at hl 2 rfl) ?_
  obtain ⟨c6, s7, g8, g9, h⟩ := h
  obtain ⟨g10, h⟩ := h
  refine xc_v (va_runV (As := [.int p2]) (rest := []) ⟨hx, hb, hml, hown, hts⟩ (mt_X3_refresh l G base h) (cwV 1 hts gX3_erasePoint_X3_refresh rfl rfl rfl (by decide +kernel) ⟨Nat.le_of_ble_eq_true rfl, Nat.le_of_ble_eq_true rfl⟩) (xp_V hbase hh hK hX hS (ci := 3) g10 (by decide) rfl) rfl rfl hl.1 rfl (lv_room (Nat.le_of_ble_eq_true rfl)) dX3_erasePoint_11 ⟨by show _ ≤ kc; omega, by show _ ≤ ks; omega⟩) hS (fun m12 H locs h hh hS => ?_)
  obtain ⟨kc13, ekc13⟩ : ∃ z : Nat, z = kc - c6 := ⟨_, rfl⟩
  obtain ⟨ks14, eks14⟩ : ∃ z : Nat, z = ks - s7 := ⟨_, rfl⟩
  replace h := h kc13 ks14 ekc13 eks14
  obtain ⟨cl15, ecl15⟩ : ∃ z : Nat, z = 0 + c6 := ⟨_, rfl⟩
  obtain ⟨sl16, esl16⟩ : ∃ z : Nat, z = 0 + s7 := ⟨_, rfl⟩
  refine W_cs ecl15 esl16 ?_
  have hcc : cl15 + kc13 ≤ kc := by omega
  have hss : sl16 + ks14 ≤ ks := by omega
  exact (xe_v hx hb hr hlocks hbase hh hK hX hS h (by omega) (by omega) dX3_erasePoint_14)

set_option maxHeartbeats 4000000 in
set_option maxRecDepth 100000 in
theorem mt_X5_erase (l : Launch) (hl9 : l.stackTraces = false) (G : GG) (base : Nat) {a0 : Nat} {p1 : Int32} {p2 : Int32} {m0 : MM} {Q : Int32 → MM → Prop} {X : Nat → MM → Prop} {kc ks : Nat} (h : wp_X5_erase a0 p1 p2 m0 Q X kc ks) : vx_Met l yX5_erase wsX5_erase ({ frames := 7, cells := kc, slots := ks, locals := 186 }) (va_Pc [.ref a0, .int p1, .int p2] (SP G base m0)) (va_Qi Q (HB G base) (xA base)) (xX G base X) kc ks (xA base) := by
  refine vx_ofW (cc := cX5_erase) (maxL := 6) (ret := (some .int)) (by decide) rfl ?_
  intro p e s m args below meth c s₁ B hml hout hv
  obtain ⟨rfl, hbase, hh, hK, hX⟩ := hv
  have C0 : BC p s m _ meth c G base RX5 cX5_erase 6 (some .int) wsX5_erase := ⟨B.exec, B.bytes, B.returns, hml, findClass_of_methodNamed B.named, atoms_spec (ws := wsX5_erase) B.pre, B.notSynchronized, hK, hbase, hX⟩
  obtain ⟨hx, hb, hr, -, hown, hts, hlocks, -, -, -⟩ := id C0
  have hS : va_S (xA base) s.heap s.heap [] := va_S.rf
  have hl := lv_entry ([.ref a0, .int p1, .int p2]) (n := 6) (Nat.le_of_ble_eq_true rfl)
  rw [lg_entry_eq]
  generalize (lg_sl ([.ref a0, .int p1, .int p2]) ++ List.replicate (6 - (lg_sl ([.ref a0, .int p1, .int p2])).length) Slot.unset).toArray = ls at hl ⊢
  have hl : lv_has ls 6 [(0, .ref a0), (1, .int p1), (2, .int p2)] := hl
  unfold wp_X5_erase at h
  have hcc : 0 + kc ≤ kc := by omega
  have hss : 0 + ks ≤ ks := by omega
  have hL3 : ∀ w ∈ u_ws RX3 TX3 5, w.before _ s = true := fun w h9 => hts w (List.mem_cons_of_mem _ (List.mem_append_left _ (List.mem_append_left _ (List.mem_append_left _ (List.mem_append_left _ (List.mem_append_left _ (List.mem_append_left _ (List.mem_append_right _ (h9)))))))))
  have q2 : (Cond.fieldLink RX5 91 "RollupStore$Series" "points" "LRollupStore$Points;").before _ s = true := hts _ (List.mem_cons_of_mem _ (List.mem_append_left _ (List.mem_append_left _ (List.mem_append_left _ (List.mem_append_left _ (List.mem_append_left _ (List.mem_append_left _ (List.mem_append_left _ (List.mem_append_left _ (List.mem_of_getElem? (i := 2) rfl))))))))))
  have hL0 : ∀ w ∈ u_ws RX0 TX0 3, w.before _ s = true := fun w h9 => hts w (List.mem_cons_of_mem _ (List.mem_append_left _ (List.mem_append_left _ (List.mem_append_left _ (List.mem_append_left _ (List.mem_append_left _ (List.mem_append_right _ (h9))))))))
  have q4 : (Cond.fieldLink RX5 95 "RollupStore$Points" "values" "[I").before _ s = true := hts _ (List.mem_cons_of_mem _ (List.mem_append_left _ (List.mem_append_left _ (List.mem_append_left _ (List.mem_append_left _ (List.mem_append_left _ (List.mem_append_left _ (List.mem_append_left _ (List.mem_append_left _ (List.mem_of_getElem? (i := 3) rfl))))))))))
  have hW2 : ∀ w ∈ (vx_atS RX5 51 "java/lang/IllegalStateException" ["java/lang/RuntimeException", "java/lang/Exception"]).filter goodWord, w.before _ s = true := fun w h9 => hts w (List.mem_cons_of_mem _ (List.mem_append_left _ (List.mem_append_right _ (h9))))
  have q6 : (Cond.classLink RX5 47 "java/lang/IllegalStateException").before _ s = true := hts _ (List.mem_cons_of_mem _ (List.mem_append_left _ (List.mem_append_left _ (List.mem_append_left _ (List.mem_append_left _ (List.mem_append_left _ (List.mem_append_left _ (List.mem_append_left _ (List.mem_append_left _ (List.mem_of_getElem? (i := 0) rfl))))))))))
  have q7 : (Cond.initialized "java/lang/IllegalStateException").before _ s = true := hts _ (List.mem_cons_of_mem _ (List.mem_append_left _ (List.mem_append_left _ (List.mem_append_left _ (List.mem_append_left _ (List.mem_append_left _ (List.mem_append_left _ (List.mem_append_left _ (List.mem_append_left _ (List.mem_of_getElem? (i := 1) rfl))))))))))
  refine lv_aload_n hx hb dX5_erase_0 rfl (lv_at hl 0 rfl) ?_
  refine lv_iload_n hx hb dX5_erase_1 rfl (lv_at hl 1 rfl) ?_
  obtain ⟨g1, g2, h⟩ := h
  obtain ⟨g3, h⟩ := h
  refine xt_q (vx_runV (As := [.int p1]) (rest := []) ⟨hx, hb, hml, hown, hts⟩ (mt_X5_seriesAt l hl9 G base h) (cwV 1 hts gX5_erase_X5_seriesAt rfl rfl rfl (by decide +kernel) ⟨Nat.le_of_ble_eq_true rfl, Nat.le_of_ble_eq_true rfl⟩) (xp_V hbase hh hK hX hS (ci := 5) g3 (by decide) rfl) rfl rfl hl.1 rfl (lv_room (Nat.le_of_ble_eq_true rfl)) dX5_erase_2 ⟨by show _ ≤ kc; omega, by show _ ≤ ks; omega⟩) hS (fun k9 m9 H locs q9 ce h hh hS hc9 hv9 hcl9 => xe_out hout hlocks hbase hh hK hX hS h hc9 hv9 hcl9 (by omega) (by omega)) (fun r4 m5 H locs h hh hS => ?_)
  obtain ⟨kc6, ekc6⟩ : ∃ z : Nat, z = kc - 1 := ⟨_, rfl⟩
  obtain ⟨ks7, eks7⟩ : ∃ z : Nat, z = ks - 6 := ⟨_, rfl⟩
  replace h := h kc6 ks7 ekc6 eks7
  obtain ⟨cl8, ecl8⟩ : ∃ z : Nat, z = 0 + 1 := ⟨_, rfl⟩
  obtain ⟨sl9, esl9⟩ : ∃ z : Nat, z = 0 + 6 := ⟨_, rfl⟩
  refine W_cs ecl8 esl9 ?_
  have hcc : cl8 + kc6 ≤ kc := by omega
  have hss : sl9 + ks7 ≤ ks := by omega
  obtain ⟨b10, eb10, h⟩ := h
  rw [eb10]
  refine W.eq (g2 := F0 m 5 ls [.ref b10]) rfl ?_
  refine lv_astore_n (lv' := [(3, .ref b10), (0, .ref a0), (1, .int p1), (2, .int p2)]) hx hb dX5_erase_5 rfl hl (by decide) rfl (fun ls hl => ?_)
  refine lv_aload_n hx hb dX5_erase_6 rfl (lv_at hl 0 rfl) ?_
  refine lv_iload_n hx hb dX5_erase_7 rfl (lv_at hl 3 rfl) ?_
  obtain ⟨g11, g12, h⟩ := h
  refine xt_i (vx_runS (As := [.ref b10, .int p2]) (rest := []) ⟨hx, hb, hml, hown, hts⟩ (mt_X5_placeOfPoint l hl9 G base h) (va_cwS 2 hts gX5_erase_X5_placeOfPoint rfl rfl rfl (by decide +kernel) ⟨Nat.le_of_ble_eq_true rfl, Nat.le_of_ble_eq_true rfl⟩) (xp_S hbase hh hK hX hS) rfl rfl hl.1 rfl (lv_room (Nat.le_of_ble_eq_true rfl)) dX5_erase_8 ⟨by show _ ≤ kc; omega, by show _ ≤ ks; omega⟩) hS (fun k9 m9 H locs q9 ce h hh hS hc9 hv9 hcl9 => xe_out hout hlocks hbase hh hK hX hS h hc9 hv9 hcl9 (by omega) (by omega)) (fun r13 m14 H locs h hh hS => ?_)
  obtain ⟨kc15, ekc15⟩ : ∃ z : Nat, z = kc6 - 1 := ⟨_, rfl⟩
  obtain ⟨ks16, eks16⟩ : ∃ z : Nat, z = ks7 - 6 := ⟨_, rfl⟩
  replace h := h kc15 ks16 ekc15 eks16
  obtain ⟨cl17, ecl17⟩ : ∃ z : Nat, z = cl8 + 1 := ⟨_, rfl⟩
  obtain ⟨sl18, esl18⟩ : ∃ z : Nat, z = sl9 + 6 := ⟨_, rfl⟩
  refine W_cs ecl17 esl18 ?_
  have hcc : cl17 + kc15 ≤ kc := by omega
  have hss : sl18 + ks16 ≤ ks := by omega
  refine lv_istore (lv' := [(4, .int r13), (3, .ref b10), (0, .ref a0), (1, .int p1), (2, .int p2)]) hx hb dX5_erase_11 hl (by decide) rfl (fun ls hl => ?_)
  refine lv_aload_n hx hb dX5_erase_13 rfl (lv_at hl 2 rfl) ?_
  refine lv_iload_n hx hb dX5_erase_14 rfl (lv_at hl 4 rfl) ?_
  obtain ⟨g19, h⟩ := h
  refine xc_i (va_runV (As := [.int p2]) (rest := []) ⟨hx, hb, hml, hown, hts⟩ (mt_X5_isTooOld l G base h) (cwV 1 hts gX5_erase_X5_isTooOld rfl rfl rfl (by decide +kernel) ⟨Nat.le_of_ble_eq_true rfl, Nat.le_of_ble_eq_true rfl⟩) (xp_V hbase hh hK hX hS (ci := 5) g19 (by decide) rfl) rfl rfl hl.1 rfl (lv_room (Nat.le_of_ble_eq_true rfl)) dX5_erase_15 ⟨by show _ ≤ kc; omega, by show _ ≤ ks; omega⟩) hS (fun r20 m21 H locs h hh hS => ?_)
  refine lv_if_eq (tgt := 31) hx hb dX5_erase_18 (by decide) (fun c22 => ?_) (fun c22 => ?_)
  · replace h := h.1 c22
    refine lv_aload_n hx hb dX5_erase_31 rfl (lv_at hl 1 rfl) ?_
    obtain ⟨g23, h⟩ := h
    obtain ⟨b24, eb24, h⟩ := h
    refine xr_getR (ci := 3) (C := RX3) (T := TX3) (N := 5) hx hb hL3 hown hK hh g23 (by decide) rfl 1 61 rfl rfl (by decide) (by decide) q2 (fun _ h9 => h9) eb24 dX5_erase_32 ?_
    obtain ⟨g25, h⟩ := h
    obtain ⟨b26, eb26, h⟩ := h
    refine xr_getR (ci := 0) (C := RX0) (T := TX0) (N := 3) hx hb hL0 hown hK hh g25 (by decide) rfl 1 1 rfl rfl (by decide) (by decide) q4 (fun _ h9 => h9) eb26 dX5_erase_35 ?_
    refine lv_iload hx hb dX5_erase_38 (lv_at hl 0 rfl) ?_
    obtain ⟨g27, h⟩ := h
    obtain ⟨g28, h⟩ := h
    refine xr_iald hx hb hK hh g27 g28 dX5_erase_40 ?_
    refine lv_topi (fun x29 ex29 => ?_)
    replace h := h x29 ex29
    refine lv_istore (lv' := [(5, .int x29), (4, .int r13), (3, .ref b10), (0, .ref a0), (1, .int p1), (2, .int p2)]) hx hb dX5_erase_41 hl (by decide) rfl (fun ls hl => ?_)
    refine lv_aload_n hx hb dX5_erase_43 rfl (lv_at hl 2 rfl) ?_
    refine lv_iload hx hb dX5_erase_44 (lv_at hl 1 rfl) ?_
    refine lv_iload_n hx hb dX5_erase_46 rfl (lv_at hl 5 rfl) ?_
    obtain ⟨c30, s31, g32, g33, h⟩ := h
    obtain ⟨g34, h⟩ := h
    refine xc_v (va_runV (As := [.int r13, .int p2]) (rest := []) ⟨hx, hb, hml, hown, hts⟩ (mt_X3_erasePoint l G base h) (cwV 2 hts gX5_erase_X3_erasePoint rfl rfl rfl (by decide +kernel) ⟨Nat.le_of_ble_eq_true rfl, Nat.le_of_ble_eq_true rfl⟩) (xp_V hbase hh hK hX hS (ci := 3) g34 (by decide) rfl) rfl rfl hl.1 rfl (lv_room (Nat.le_of_ble_eq_true rfl)) dX5_erase_47 ⟨by show _ ≤ kc; omega, by show _ ≤ ks; omega⟩) hS (fun m36 H locs h hh hS => ?_)
    obtain ⟨kc37, ekc37⟩ : ∃ z : Nat, z = kc15 - c30 := ⟨_, rfl⟩
    obtain ⟨ks38, eks38⟩ : ∃ z : Nat, z = ks16 - s31 := ⟨_, rfl⟩
    replace h := h kc37 ks38 ekc37 eks38
    obtain ⟨cl39, ecl39⟩ : ∃ z : Nat, z = cl17 + c30 := ⟨_, rfl⟩
    obtain ⟨sl40, esl40⟩ : ∃ z : Nat, z = sl18 + s31 := ⟨_, rfl⟩
    refine W_cs ecl39 esl40 ?_
    have hcc : cl39 + kc37 ≤ kc := by omega
    have hss : sl40 + ks38 ≤ ks := by omega
    refine lv_iload hx hb dX5_erase_50 (lv_at hl 0 rfl) ?_
    exact vx_ret (xe_i hx hb hr hlocks hbase hh hK hX hS h (by omega) (by omega) dX5_erase_52)
  · replace h := h.2 c22
    obtain ⟨g41, g42, h⟩ := h
    exact xe_throw2 (text := "the time is too old") (is := 89) hx hb hl9 hout hlocks hbase hh hX hS hown q6 q7 hW2 (List.mem_of_getElem? (i := 1) rfl) (hl.1.trans hml.symm) dX5_erase_21 dX5_erase_24 dX5_erase_25 dX5_erase_27 dX5_erase_30 (Nat.le_of_ble_eq_true rfl) (Nat.le_of_ble_eq_true rfl) (by show _ ≤ kc; omega) (by show _ ≤ ks; omega) h (by omega) (by omega)

set_option maxHeartbeats 4000000 in
set_option maxRecDepth 100000 in
theorem mtq_X5_erase (l : Launch) (G : GG) (base : Nat) {a0 : Nat} {p1 : Int32} {p2 : Int32} {m0 : MM} {Q : Int32 → MM → Prop} {kc ks : Nat} (h : wp_X5_erase a0 p1 p2 m0 Q (fun _ _ => False) kc ks) : Met l yX5_erase wsX5_erase ({ frames := 7, cells := kc, slots := ks, locals := 186 }) (va_Pc [.ref a0, .int p1, .int p2] (SP G base m0)) (va_Qi Q (HB G base) (xA base)) kc ks (xA base) := by
  refine Met.ofW (cc := cX5_erase) (maxL := 6) (ret := (some .int)) (by decide) rfl ?_
  intro p e s m args below meth c s₁ B hml hv
  obtain ⟨rfl, hbase, hh, hK, hX⟩ := hv
  have C0 : BC p s m _ meth c G base RX5 cX5_erase 6 (some .int) wsX5_erase := ⟨B.exec, B.bytes, B.returns, hml, findClass_of_methodNamed B.named, atoms_spec (ws := wsX5_erase) B.pre, B.notSynchronized, hK, hbase, hX⟩
  obtain ⟨hx, hb, hr, -, hown, hts, hlocks, -, -, -⟩ := id C0
  have hS : va_S (xA base) s.heap s.heap [] := va_S.rf
  have hl := lv_entry ([.ref a0, .int p1, .int p2]) (n := 6) (Nat.le_of_ble_eq_true rfl)
  rw [lg_entry_eq]
  generalize (lg_sl ([.ref a0, .int p1, .int p2]) ++ List.replicate (6 - (lg_sl ([.ref a0, .int p1, .int p2])).length) Slot.unset).toArray = ls at hl ⊢
  have hl : lv_has ls 6 [(0, .ref a0), (1, .int p1), (2, .int p2)] := hl
  unfold wp_X5_erase at h
  have hcc : 0 + kc ≤ kc := by omega
  have hss : 0 + ks ≤ ks := by omega
  have hL3 : ∀ w ∈ u_ws RX3 TX3 5, w.before _ s = true := fun w h9 => hts w (List.mem_cons_of_mem _ (List.mem_append_left _ (List.mem_append_left _ (List.mem_append_left _ (List.mem_append_left _ (List.mem_append_left _ (List.mem_append_left _ (List.mem_append_right _ (h9)))))))))
  have q2 : (Cond.fieldLink RX5 91 "RollupStore$Series" "points" "LRollupStore$Points;").before _ s = true := hts _ (List.mem_cons_of_mem _ (List.mem_append_left _ (List.mem_append_left _ (List.mem_append_left _ (List.mem_append_left _ (List.mem_append_left _ (List.mem_append_left _ (List.mem_append_left _ (List.mem_append_left _ (List.mem_of_getElem? (i := 2) rfl))))))))))
  have hL0 : ∀ w ∈ u_ws RX0 TX0 3, w.before _ s = true := fun w h9 => hts w (List.mem_cons_of_mem _ (List.mem_append_left _ (List.mem_append_left _ (List.mem_append_left _ (List.mem_append_left _ (List.mem_append_left _ (List.mem_append_right _ (h9))))))))
  have q4 : (Cond.fieldLink RX5 95 "RollupStore$Points" "values" "[I").before _ s = true := hts _ (List.mem_cons_of_mem _ (List.mem_append_left _ (List.mem_append_left _ (List.mem_append_left _ (List.mem_append_left _ (List.mem_append_left _ (List.mem_append_left _ (List.mem_append_left _ (List.mem_append_left _ (List.mem_of_getElem? (i := 3) rfl))))))))))
  refine lv_aload_n hx hb dX5_erase_0 rfl (lv_at hl 0 rfl) ?_
  refine lv_iload_n hx hb dX5_erase_1 rfl (lv_at hl 1 rfl) ?_
  obtain ⟨g1, g2, h⟩ := h
  obtain ⟨g3, h⟩ := h
  refine xc_q (va_runV (As := [.int p1]) (rest := []) ⟨hx, hb, hml, hown, hts⟩ (mtq_X5_seriesAt l G base h) (cwV 1 hts gX5_erase_X5_seriesAt rfl rfl rfl (by decide +kernel) ⟨Nat.le_of_ble_eq_true rfl, Nat.le_of_ble_eq_true rfl⟩) (xp_V hbase hh hK hX hS (ci := 5) g3 (by decide) rfl) rfl rfl hl.1 rfl (lv_room (Nat.le_of_ble_eq_true rfl)) dX5_erase_2 ⟨by show _ ≤ kc; omega, by show _ ≤ ks; omega⟩) hS (fun r4 m5 H locs h hh hS => ?_)
  refine W.widen (k := 0 + 1) (n := 0 + 6) (by omega) (by omega) ?_
  obtain ⟨kc6, ekc6⟩ : ∃ z : Nat, z = kc - 1 := ⟨_, rfl⟩
  obtain ⟨ks7, eks7⟩ : ∃ z : Nat, z = ks - 6 := ⟨_, rfl⟩
  replace h := h kc6 ks7 ekc6 eks7
  obtain ⟨cl8, ecl8⟩ : ∃ z : Nat, z = 0 + 1 := ⟨_, rfl⟩
  obtain ⟨sl9, esl9⟩ : ∃ z : Nat, z = 0 + 6 := ⟨_, rfl⟩
  refine W_cs ecl8 esl9 ?_
  have hcc : cl8 + kc6 ≤ kc := by omega
  have hss : sl9 + ks7 ≤ ks := by omega
  obtain ⟨b10, eb10, h⟩ := h
  rw [eb10]
  refine W.eq (g2 := F0 m 5 ls [.ref b10]) rfl ?_
  refine lv_astore_n (lv' := [(3, .ref b10), (0, .ref a0), (1, .int p1), (2, .int p2)]) hx hb dX5_erase_5 rfl hl (by decide) rfl (fun ls hl => ?_)
  refine lv_aload_n hx hb dX5_erase_6 rfl (lv_at hl 0 rfl) ?_
  refine lv_iload_n hx hb dX5_erase_7 rfl (lv_at hl 3 rfl) ?_
  obtain ⟨g11, g12, h⟩ := h
  refine xc_i (va_runS (As := [.ref b10, .int p2]) (rest := []) ⟨hx, hb, hml, hown, hts⟩ (mtq_X5_placeOfPoint l G base h) (va_cwS 2 hts gX5_erase_X5_placeOfPoint rfl rfl rfl (by decide +kernel) ⟨Nat.le_of_ble_eq_true rfl, Nat.le_of_ble_eq_true rfl⟩) (xp_S hbase hh hK hX hS) rfl rfl hl.1 rfl (lv_room (Nat.le_of_ble_eq_true rfl)) dX5_erase_8 ⟨by show _ ≤ kc; omega, by show _ ≤ ks; omega⟩) hS (fun r13 m14 H locs h hh hS => ?_)
  refine W.widen (k := cl8 + 1) (n := sl9 + 6) (by omega) (by omega) ?_
  obtain ⟨kc15, ekc15⟩ : ∃ z : Nat, z = kc6 - 1 := ⟨_, rfl⟩
  obtain ⟨ks16, eks16⟩ : ∃ z : Nat, z = ks7 - 6 := ⟨_, rfl⟩
  replace h := h kc15 ks16 ekc15 eks16
  obtain ⟨cl17, ecl17⟩ : ∃ z : Nat, z = cl8 + 1 := ⟨_, rfl⟩
  obtain ⟨sl18, esl18⟩ : ∃ z : Nat, z = sl9 + 6 := ⟨_, rfl⟩
  refine W_cs ecl17 esl18 ?_
  have hcc : cl17 + kc15 ≤ kc := by omega
  have hss : sl18 + ks16 ≤ ks := by omega
  refine lv_istore (lv' := [(4, .int r13), (3, .ref b10), (0, .ref a0), (1, .int p1), (2, .int p2)]) hx hb dX5_erase_11 hl (by decide) rfl (fun ls hl => ?_)
  refine lv_aload_n hx hb dX5_erase_13 rfl (lv_at hl 2 rfl) ?_
  refine lv_iload_n hx hb dX5_erase_14 rfl (lv_at hl 4 rfl) ?_
  obtain ⟨g19, h⟩ := h
  refine xc_i (va_runV (As := [.int p2]) (rest := []) ⟨hx, hb, hml, hown, hts⟩ (mt_X5_isTooOld l G base h) (cwV 1 hts gX5_erase_X5_isTooOld rfl rfl rfl (by decide +kernel) ⟨Nat.le_of_ble_eq_true rfl, Nat.le_of_ble_eq_true rfl⟩) (xp_V hbase hh hK hX hS (ci := 5) g19 (by decide) rfl) rfl rfl hl.1 rfl (lv_room (Nat.le_of_ble_eq_true rfl)) dX5_erase_15 ⟨by show _ ≤ kc; omega, by show _ ≤ ks; omega⟩) hS (fun r20 m21 H locs h hh hS => ?_)
  refine lv_if_eq (tgt := 31) hx hb dX5_erase_18 (by decide) (fun c22 => ?_) (fun c22 => ?_)
  · replace h := h.1 c22
    refine lv_aload_n hx hb dX5_erase_31 rfl (lv_at hl 1 rfl) ?_
    obtain ⟨g23, h⟩ := h
    obtain ⟨b24, eb24, h⟩ := h
    refine xr_getR (ci := 3) (C := RX3) (T := TX3) (N := 5) hx hb hL3 hown hK hh g23 (by decide) rfl 1 61 rfl rfl (by decide) (by decide) q2 (fun _ h9 => h9) eb24 dX5_erase_32 ?_
    obtain ⟨g25, h⟩ := h
    obtain ⟨b26, eb26, h⟩ := h
    refine xr_getR (ci := 0) (C := RX0) (T := TX0) (N := 3) hx hb hL0 hown hK hh g25 (by decide) rfl 1 1 rfl rfl (by decide) (by decide) q4 (fun _ h9 => h9) eb26 dX5_erase_35 ?_
    refine lv_iload hx hb dX5_erase_38 (lv_at hl 0 rfl) ?_
    obtain ⟨g27, h⟩ := h
    obtain ⟨g28, h⟩ := h
    refine xr_iald hx hb hK hh g27 g28 dX5_erase_40 ?_
    refine lv_topi (fun x29 ex29 => ?_)
    replace h := h x29 ex29
    refine lv_istore (lv' := [(5, .int x29), (4, .int r13), (3, .ref b10), (0, .ref a0), (1, .int p1), (2, .int p2)]) hx hb dX5_erase_41 hl (by decide) rfl (fun ls hl => ?_)
    refine lv_aload_n hx hb dX5_erase_43 rfl (lv_at hl 2 rfl) ?_
    refine lv_iload hx hb dX5_erase_44 (lv_at hl 1 rfl) ?_
    refine lv_iload_n hx hb dX5_erase_46 rfl (lv_at hl 5 rfl) ?_
    obtain ⟨c30, s31, g32, g33, h⟩ := h
    obtain ⟨g34, h⟩ := h
    refine xc_v (va_runV (As := [.int r13, .int p2]) (rest := []) ⟨hx, hb, hml, hown, hts⟩ (mt_X3_erasePoint l G base h) (cwV 2 hts gX5_erase_X3_erasePoint rfl rfl rfl (by decide +kernel) ⟨Nat.le_of_ble_eq_true rfl, Nat.le_of_ble_eq_true rfl⟩) (xp_V hbase hh hK hX hS (ci := 3) g34 (by decide) rfl) rfl rfl hl.1 rfl (lv_room (Nat.le_of_ble_eq_true rfl)) dX5_erase_47 ⟨by show _ ≤ kc; omega, by show _ ≤ ks; omega⟩) hS (fun m36 H locs h hh hS => ?_)
    obtain ⟨kc37, ekc37⟩ : ∃ z : Nat, z = kc15 - c30 := ⟨_, rfl⟩
    obtain ⟨ks38, eks38⟩ : ∃ z : Nat, z = ks16 - s31 := ⟨_, rfl⟩
    replace h := h kc37 ks38 ekc37 eks38
    obtain ⟨cl39, ecl39⟩ : ∃ z : Nat, z = cl17 + c30 := ⟨_, rfl⟩
    obtain ⟨sl40, esl40⟩ : ∃ z : Nat, z = sl18 + s31 := ⟨_, rfl⟩
    refine W_cs ecl39 esl40 ?_
    have hcc : cl39 + kc37 ≤ kc := by omega
    have hss : sl40 + ks38 ≤ ks := by omega
    refine lv_iload hx hb dX5_erase_50 (lv_at hl 0 rfl) ?_
    exact (xe_i hx hb hr hlocks hbase hh hK hX hS h (by omega) (by omega) dX5_erase_52)
  · replace h := h.2 c22
    exact h.2.2.elim

set_option maxHeartbeats 4000000 in
set_option maxRecDepth 100000 in
theorem mt_X5_setRetention (l : Launch) (hl9 : l.stackTraces = false) (G : GG) (base : Nat) {a0 : Nat} {p1 : Int32} {p2 : Int32} {m0 : MM} {Q : Int32 → MM → Prop} {X : Nat → MM → Prop} (h : wp_X5_setRetention a0 p1 p2 m0 Q X) : vx_Met l yX5_setRetention wsX5_setRetention ({ frames := 8, cells := 2, slots := 12, locals := 159 }) (va_Pc [.ref a0, .int p1, .int p2] (SP G base m0)) (va_Qi Q (HB G base) (xA base)) (xX G base X) 2 12 (xA base) := by
  refine vx_ofW (cc := cX5_setRetention) (maxL := 4) (ret := (some .int)) (by decide) rfl ?_
  intro p e s m args below meth c s₁ B hml hout hv
  obtain ⟨rfl, hbase, hh, hK, hX⟩ := hv
  have C0 : BC p s m _ meth c G base RX5 cX5_setRetention 4 (some .int) wsX5_setRetention := ⟨B.exec, B.bytes, B.returns, hml, findClass_of_methodNamed B.named, atoms_spec (ws := wsX5_setRetention) B.pre, B.notSynchronized, hK, hbase, hX⟩
  obtain ⟨hx, hb, hr, -, hown, hts, hlocks, -, -, -⟩ := id C0
  have hS : va_S (xA base) s.heap s.heap [] := va_S.rf
  have hl := lv_entry ([.ref a0, .int p1, .int p2]) (n := 4) (Nat.le_of_ble_eq_true rfl)
  rw [lg_entry_eq]
  generalize (lg_sl ([.ref a0, .int p1, .int p2]) ++ List.replicate (4 - (lg_sl ([.ref a0, .int p1, .int p2])).length) Slot.unset).toArray = ls at hl ⊢
  have hl : lv_has ls 4 [(0, .ref a0), (1, .int p1), (2, .int p2)] := hl
  unfold wp_X5_setRetention at h
  have q1 : (Cond.constant RX5 119 (90000)).before _ s = true := hts _ (List.mem_cons_of_mem _ (List.mem_append_left _ (List.mem_append_left _ (List.mem_append_left _ (List.mem_append_left _ (List.mem_append_left _ (List.mem_append_left _ (List.mem_append_left _ (List.mem_append_left _ (List.mem_of_getElem? (i := 0) rfl))))))))))
  have q2 : (Cond.constant RX5 120 (100000000)).before _ s = true := hts _ (List.mem_cons_of_mem _ (List.mem_append_left _ (List.mem_append_left _ (List.mem_append_left _ (List.mem_append_left _ (List.mem_append_left _ (List.mem_append_left _ (List.mem_append_left _ (List.mem_append_left _ (List.mem_of_getElem? (i := 1) rfl))))))))))
  have hL5 : ∀ w ∈ u_ws RX5 TX5 7, w.before _ s = true := fun w h9 => hts w (List.mem_cons_of_mem _ (List.mem_append_left _ (List.mem_append_left _ (List.mem_append_left _ (List.mem_append_left _ (List.mem_append_left _ (List.mem_append_left _ (List.mem_append_right _ (h9)))))))))
  have q4 : (Cond.fieldLink RX5 18 "RollupStore" "retention" "[I").before _ s = true := hts _ (List.mem_cons_of_mem _ (List.mem_append_left _ (List.mem_append_left _ (List.mem_append_left _ (List.mem_append_left _ (List.mem_append_left _ (List.mem_append_left _ (List.mem_append_left _ (List.mem_append_left _ (List.mem_of_getElem? (i := 2) rfl))))))))))
  refine lv_iload_n hx hb dX5_setRetention_0 rfl (lv_at hl 1 rfl) ?_
  refine lv_iconst (v := 0) hx hb dX5_setRetention_1 (by decide) ?_
  refine lv_iconst (v := 3) hx hb dX5_setRetention_2 (by decide) ?_
  refine xt_v (vx_runS (As := [.int p1, .int (0 : Int32), .int (3 : Int32)]) (rest := []) ⟨hx, hb, hml, hown, hts⟩ (mt_X5_needRange l hl9 G base h) (va_cwS 3 hts gX5_setRetention_X5_needRange rfl rfl rfl (by decide +kernel) ⟨Nat.le_of_ble_eq_true rfl, Nat.le_of_ble_eq_true rfl⟩) (xp_S hbase hh hK hX hS) rfl rfl hl.1 rfl (lv_room (Nat.le_of_ble_eq_true rfl)) dX5_setRetention_3 ⟨Nat.le_of_ble_eq_true rfl, Nat.le_of_ble_eq_true rfl⟩) hS (fun k9 m9 H locs q9 ce h hh hS hc9 hv9 hcl9 => xe_out hout hlocks hbase hh hK hX hS h hc9 hv9 hcl9 (Nat.le_of_ble_eq_true rfl) (Nat.le_of_ble_eq_true rfl)) (fun m2 H locs h hh hS => ?_)
  refine lv_iload_n hx hb dX5_setRetention_6 rfl (lv_at hl 2 rfl) ?_
  refine lv_iload_n hx hb dX5_setRetention_7 rfl (lv_at hl 1 rfl) ?_
  refine lv_iconst (v := 1) hx hb dX5_setRetention_8 (by decide) ?_
  refine lv_icmp_gt (tgt := 18) hx hb dX5_setRetention_9 (by decide) (fun c3 => ?_) (fun c3 => ?_)
  · replace h := h.1 c3
    refine lv_ldc hx hb hown q1 dX5_setRetention_18 ?_
    refine lv_ldc hx hb hown q2 dX5_setRetention_20 ?_
    refine xt_v (vx_runS (As := [.int p2, .int (90000 : Int32), .int (100000000 : Int32)]) (rest := []) ⟨hx, hb, hml, hown, hts⟩ (mt_X5_needRange l hl9 G base h) (va_cwS 3 hts gX5_setRetention_X5_needRange rfl rfl rfl (by decide +kernel) ⟨Nat.le_of_ble_eq_true rfl, Nat.le_of_ble_eq_true rfl⟩) (xp_S hbase hh hK hX hS) rfl rfl hl.1 rfl (lv_room (Nat.le_of_ble_eq_true rfl)) dX5_setRetention_22 ⟨Nat.le_of_ble_eq_true rfl, Nat.le_of_ble_eq_true rfl⟩) hS (fun k9 m9 H locs q9 ce h hh hS hc9 hv9 hcl9 => xe_out hout hlocks hbase hh hK hX hS h hc9 hv9 hcl9 (Nat.le_of_ble_eq_true rfl) (Nat.le_of_ble_eq_true rfl)) (fun m5 H locs h hh hS => ?_)
    refine lv_aload_n hx hb dX5_setRetention_25 rfl (lv_at hl 0 rfl) ?_
    obtain ⟨g6, h⟩ := h
    obtain ⟨b7, eb7, h⟩ := h
    refine xr_getR (ci := 5) (C := RX5) (T := TX5) (N := 7) hx hb hL5 hown hK hh g6 (by decide) rfl 3 103 rfl rfl (by decide) (by decide) q4 (fun _ h9 => h9) eb7 dX5_setRetention_26 ?_
    refine lv_iload_n hx hb dX5_setRetention_29 rfl (lv_at hl 1 rfl) ?_
    obtain ⟨g8, h⟩ := h
    obtain ⟨g9, h⟩ := h
    refine xr_iald hx hb hK hh g8 g9 dX5_setRetention_30 ?_
    refine lv_topi (fun x10 ex10 => ?_)
    replace h := h x10 ex10
    refine lv_istore_n (lv' := [(3, .int x10), (0, .ref a0), (1, .int p1), (2, .int p2)]) hx hb dX5_setRetention_31 rfl hl (by decide) rfl (fun ls hl => ?_)
    refine lv_aload_n hx hb dX5_setRetention_32 rfl (lv_at hl 1 rfl) ?_
    obtain ⟨g11, h⟩ := h
    obtain ⟨b12, eb12, h⟩ := h
    refine xr_getR (ci := 5) (C := RX5) (T := TX5) (N := 7) hx hb hL5 hown hK hh g11 (by decide) rfl 3 103 rfl rfl (by decide) (by decide) q4 (fun _ h9 => h9) eb12 dX5_setRetention_33 ?_
    refine lv_iload_n hx hb dX5_setRetention_36 rfl (lv_at hl 2 rfl) ?_
    refine lv_iload_n hx hb dX5_setRetention_37 rfl (lv_at hl 3 rfl) ?_
    obtain ⟨g13, h⟩ := h
    obtain ⟨g14, h⟩ := h
    refine xr_iast hx hb hK hh g13 hS g14 dX5_setRetention_38 (fun H locs hh hS => ?_)
    obtain ⟨m15, em15⟩ : ∃ z : MM, z = sAI m5 b12 (va_up (mAI m5 b12) p1.toNatClampNeg p2) := ⟨_, rfl⟩
    rw [← em15] at hh
    replace h := h m15 em15
    refine lv_aload_n hx hb dX5_setRetention_39 rfl (lv_at hl 1 rfl) ?_
    refine lv_iload_n hx hb dX5_setRetention_40 rfl (lv_at hl 2 rfl) ?_
    obtain ⟨g16, h⟩ := h
    refine xt_i (vx_runV (As := [.int p1]) (rest := []) ⟨hx, hb, hml, hown, hts⟩ (mt_X5_moveHorizon l hl9 G base h) (cwV 1 hts gX5_setRetention_X5_moveHorizon rfl rfl rfl (by decide +kernel) ⟨Nat.le_of_ble_eq_true rfl, Nat.le_of_ble_eq_true rfl⟩) (xp_V hbase hh hK hX hS (ci := 5) g16 (by decide) rfl) rfl rfl hl.1 rfl (lv_room (Nat.le_of_ble_eq_true rfl)) dX5_setRetention_41 ⟨Nat.le_of_ble_eq_true rfl, Nat.le_of_ble_eq_true rfl⟩) hS (fun k9 m9 H locs q9 ce h hh hS hc9 hv9 hcl9 => xe_out hout hlocks hbase hh hK hX hS h hc9 hv9 hcl9 (Nat.le_of_ble_eq_true rfl) (Nat.le_of_ble_eq_true rfl)) (fun r17 m18 H locs h hh hS => ?_)
    refine lv_pop hx hb dX5_setRetention_44 rfl ?_
    refine lv_iload_n hx hb dX5_setRetention_45 rfl (lv_at hl 0 rfl) ?_
    exact vx_ret (xe_i hx hb hr hlocks hbase hh hK hX hS h (Nat.le_of_ble_eq_true rfl) (Nat.le_of_ble_eq_true rfl) dX5_setRetention_46)
  · replace h := h.2 c3
    refine lv_sipush (v := 7200) hx hb dX5_setRetention_12 (by decide) ?_
    refine lv_goto (tgt := 20) hx hb dX5_setRetention_15 (by decide) ?_
    refine lv_ldc hx hb hown q2 dX5_setRetention_20 ?_
    refine xt_v (vx_runS (As := [.int p2, .int (7200 : Int32), .int (100000000 : Int32)]) (rest := []) ⟨hx, hb, hml, hown, hts⟩ (mt_X5_needRange l hl9 G base h) (va_cwS 3 hts gX5_setRetention_X5_needRange rfl rfl rfl (by decide +kernel) ⟨Nat.le_of_ble_eq_true rfl, Nat.le_of_ble_eq_true rfl⟩) (xp_S hbase hh hK hX hS) rfl rfl hl.1 rfl (lv_room (Nat.le_of_ble_eq_true rfl)) dX5_setRetention_22 ⟨Nat.le_of_ble_eq_true rfl, Nat.le_of_ble_eq_true rfl⟩) hS (fun k9 m9 H locs q9 ce h hh hS hc9 hv9 hcl9 => xe_out hout hlocks hbase hh hK hX hS h hc9 hv9 hcl9 (Nat.le_of_ble_eq_true rfl) (Nat.le_of_ble_eq_true rfl)) (fun m20 H locs h hh hS => ?_)
    refine lv_aload_n hx hb dX5_setRetention_25 rfl (lv_at hl 0 rfl) ?_
    obtain ⟨g21, h⟩ := h
    obtain ⟨b22, eb22, h⟩ := h
    refine xr_getR (ci := 5) (C := RX5) (T := TX5) (N := 7) hx hb hL5 hown hK hh g21 (by decide) rfl 3 103 rfl rfl (by decide) (by decide) q4 (fun _ h9 => h9) eb22 dX5_setRetention_26 ?_
    refine lv_iload_n hx hb dX5_setRetention_29 rfl (lv_at hl 1 rfl) ?_
    obtain ⟨g23, h⟩ := h
    obtain ⟨g24, h⟩ := h
    refine xr_iald hx hb hK hh g23 g24 dX5_setRetention_30 ?_
    refine lv_topi (fun x25 ex25 => ?_)
    replace h := h x25 ex25
    refine lv_istore_n (lv' := [(3, .int x25), (0, .ref a0), (1, .int p1), (2, .int p2)]) hx hb dX5_setRetention_31 rfl hl (by decide) rfl (fun ls hl => ?_)
    refine lv_aload_n hx hb dX5_setRetention_32 rfl (lv_at hl 1 rfl) ?_
    obtain ⟨g26, h⟩ := h
    obtain ⟨b27, eb27, h⟩ := h
    refine xr_getR (ci := 5) (C := RX5) (T := TX5) (N := 7) hx hb hL5 hown hK hh g26 (by decide) rfl 3 103 rfl rfl (by decide) (by decide) q4 (fun _ h9 => h9) eb27 dX5_setRetention_33 ?_
    refine lv_iload_n hx hb dX5_setRetention_36 rfl (lv_at hl 2 rfl) ?_
    refine lv_iload_n hx hb dX5_setRetention_37 rfl (lv_at hl 3 rfl) ?_
    obtain ⟨g28, h⟩ := h
    obtain ⟨g29, h⟩ := h
    refine xr_iast hx hb hK hh g28 hS g29 dX5_setRetention_38 (fun H locs hh hS => ?_)
    obtain ⟨m30, em30⟩ : ∃ z : MM, z = sAI m20 b27 (va_up (mAI m20 b27) p1.toNatClampNeg p2) := ⟨_, rfl⟩
    rw [← em30] at hh
    replace h := h m30 em30
    refine lv_aload_n hx hb dX5_setRetention_39 rfl (lv_at hl 1 rfl) ?_
    refine lv_iload_n hx hb dX5_setRetention_40 rfl (lv_at hl 2 rfl) ?_
    obtain ⟨g31, h⟩ := h
    refine xt_i (vx_runV (As := [.int p1]) (rest := []) ⟨hx, hb, hml, hown, hts⟩ (mt_X5_moveHorizon l hl9 G base h) (cwV 1 hts gX5_setRetention_X5_moveHorizon rfl rfl rfl (by decide +kernel) ⟨Nat.le_of_ble_eq_true rfl, Nat.le_of_ble_eq_true rfl⟩) (xp_V hbase hh hK hX hS (ci := 5) g31 (by decide) rfl) rfl rfl hl.1 rfl (lv_room (Nat.le_of_ble_eq_true rfl)) dX5_setRetention_41 ⟨Nat.le_of_ble_eq_true rfl, Nat.le_of_ble_eq_true rfl⟩) hS (fun k9 m9 H locs q9 ce h hh hS hc9 hv9 hcl9 => xe_out hout hlocks hbase hh hK hX hS h hc9 hv9 hcl9 (Nat.le_of_ble_eq_true rfl) (Nat.le_of_ble_eq_true rfl)) (fun r32 m33 H locs h hh hS => ?_)
    refine lv_pop hx hb dX5_setRetention_44 rfl ?_
    refine lv_iload_n hx hb dX5_setRetention_45 rfl (lv_at hl 0 rfl) ?_
    exact vx_ret (xe_i hx hb hr hlocks hbase hh hK hX hS h (Nat.le_of_ble_eq_true rfl) (Nat.le_of_ble_eq_true rfl) dX5_setRetention_46)

set_option maxHeartbeats 4000000 in
set_option maxRecDepth 100000 in
theorem mtq_X5_setRetention (l : Launch) (G : GG) (base : Nat) {a0 : Nat} {p1 : Int32} {p2 : Int32} {m0 : MM} {Q : Int32 → MM → Prop} (h : wp_X5_setRetention a0 p1 p2 m0 Q (fun _ _ => False)) : Met l yX5_setRetention wsX5_setRetention ({ frames := 8, cells := 0, slots := 0, locals := 159 }) (va_Pc [.ref a0, .int p1, .int p2] (SP G base m0)) (va_Qi Q (HB G base) (xA base)) 0 0 (xA base) := by
  refine Met.ofW (cc := cX5_setRetention) (maxL := 4) (ret := (some .int)) (by decide) rfl ?_
  intro p e s m args below meth c s₁ B hml hv
  obtain ⟨rfl, hbase, hh, hK, hX⟩ := hv
  have C0 : BC p s m _ meth c G base RX5 cX5_setRetention 4 (some .int) wsX5_setRetention := ⟨B.exec, B.bytes, B.returns, hml, findClass_of_methodNamed B.named, atoms_spec (ws := wsX5_setRetention) B.pre, B.notSynchronized, hK, hbase, hX⟩
  obtain ⟨hx, hb, hr, -, hown, hts, hlocks, -, -, -⟩ := id C0
  have hS : va_S (xA base) s.heap s.heap [] := va_S.rf
  have hl := lv_entry ([.ref a0, .int p1, .int p2]) (n := 4) (Nat.le_of_ble_eq_true rfl)
  rw [lg_entry_eq]
  generalize (lg_sl ([.ref a0, .int p1, .int p2]) ++ List.replicate (4 - (lg_sl ([.ref a0, .int p1, .int p2])).length) Slot.unset).toArray = ls at hl ⊢
  have hl : lv_has ls 4 [(0, .ref a0), (1, .int p1), (2, .int p2)] := hl
  unfold wp_X5_setRetention at h
  have q1 : (Cond.constant RX5 119 (90000)).before _ s = true := hts _ (List.mem_cons_of_mem _ (List.mem_append_left _ (List.mem_append_left _ (List.mem_append_left _ (List.mem_append_left _ (List.mem_append_left _ (List.mem_append_left _ (List.mem_append_left _ (List.mem_append_left _ (List.mem_of_getElem? (i := 0) rfl))))))))))
  have q2 : (Cond.constant RX5 120 (100000000)).before _ s = true := hts _ (List.mem_cons_of_mem _ (List.mem_append_left _ (List.mem_append_left _ (List.mem_append_left _ (List.mem_append_left _ (List.mem_append_left _ (List.mem_append_left _ (List.mem_append_left _ (List.mem_append_left _ (List.mem_of_getElem? (i := 1) rfl))))))))))
  have hL5 : ∀ w ∈ u_ws RX5 TX5 7, w.before _ s = true := fun w h9 => hts w (List.mem_cons_of_mem _ (List.mem_append_left _ (List.mem_append_left _ (List.mem_append_left _ (List.mem_append_left _ (List.mem_append_left _ (List.mem_append_left _ (List.mem_append_right _ (h9)))))))))
  have q4 : (Cond.fieldLink RX5 18 "RollupStore" "retention" "[I").before _ s = true := hts _ (List.mem_cons_of_mem _ (List.mem_append_left _ (List.mem_append_left _ (List.mem_append_left _ (List.mem_append_left _ (List.mem_append_left _ (List.mem_append_left _ (List.mem_append_left _ (List.mem_append_left _ (List.mem_of_getElem? (i := 2) rfl))))))))))
  refine lv_iload_n hx hb dX5_setRetention_0 rfl (lv_at hl 1 rfl) ?_
  refine lv_iconst (v := 0) hx hb dX5_setRetention_1 (by decide) ?_
  refine lv_iconst (v := 3) hx hb dX5_setRetention_2 (by decide) ?_
  refine xc_v (va_runS (As := [.int p1, .int (0 : Int32), .int (3 : Int32)]) (rest := []) ⟨hx, hb, hml, hown, hts⟩ (mtq_X5_needRange l G base h) (va_cwS 3 hts gX5_setRetention_X5_needRange rfl rfl rfl (by decide +kernel) ⟨Nat.le_of_ble_eq_true rfl, Nat.le_of_ble_eq_true rfl⟩) (xp_S hbase hh hK hX hS) rfl rfl hl.1 rfl (lv_room (Nat.le_of_ble_eq_true rfl)) dX5_setRetention_3 ⟨Nat.le_of_ble_eq_true rfl, Nat.le_of_ble_eq_true rfl⟩) hS (fun m2 H locs h hh hS => ?_)
  refine lv_iload_n hx hb dX5_setRetention_6 rfl (lv_at hl 2 rfl) ?_
  refine lv_iload_n hx hb dX5_setRetention_7 rfl (lv_at hl 1 rfl) ?_
  refine lv_iconst (v := 1) hx hb dX5_setRetention_8 (by decide) ?_
  refine lv_icmp_gt (tgt := 18) hx hb dX5_setRetention_9 (by decide) (fun c3 => ?_) (fun c3 => ?_)
  · replace h := h.1 c3
    refine lv_ldc hx hb hown q1 dX5_setRetention_18 ?_
    refine lv_ldc hx hb hown q2 dX5_setRetention_20 ?_
    refine xc_v (va_runS (As := [.int p2, .int (90000 : Int32), .int (100000000 : Int32)]) (rest := []) ⟨hx, hb, hml, hown, hts⟩ (mtq_X5_needRange l G base h) (va_cwS 3 hts gX5_setRetention_X5_needRange rfl rfl rfl (by decide +kernel) ⟨Nat.le_of_ble_eq_true rfl, Nat.le_of_ble_eq_true rfl⟩) (xp_S hbase hh hK hX hS) rfl rfl hl.1 rfl (lv_room (Nat.le_of_ble_eq_true rfl)) dX5_setRetention_22 ⟨Nat.le_of_ble_eq_true rfl, Nat.le_of_ble_eq_true rfl⟩) hS (fun m5 H locs h hh hS => ?_)
    refine lv_aload_n hx hb dX5_setRetention_25 rfl (lv_at hl 0 rfl) ?_
    obtain ⟨g6, h⟩ := h
    obtain ⟨b7, eb7, h⟩ := h
    refine xr_getR (ci := 5) (C := RX5) (T := TX5) (N := 7) hx hb hL5 hown hK hh g6 (by decide) rfl 3 103 rfl rfl (by decide) (by decide) q4 (fun _ h9 => h9) eb7 dX5_setRetention_26 ?_
    refine lv_iload_n hx hb dX5_setRetention_29 rfl (lv_at hl 1 rfl) ?_
    obtain ⟨g8, h⟩ := h
    obtain ⟨g9, h⟩ := h
    refine xr_iald hx hb hK hh g8 g9 dX5_setRetention_30 ?_
    refine lv_topi (fun x10 ex10 => ?_)
    replace h := h x10 ex10
    refine lv_istore_n (lv' := [(3, .int x10), (0, .ref a0), (1, .int p1), (2, .int p2)]) hx hb dX5_setRetention_31 rfl hl (by decide) rfl (fun ls hl => ?_)
    refine lv_aload_n hx hb dX5_setRetention_32 rfl (lv_at hl 1 rfl) ?_
    obtain ⟨g11, h⟩ := h
    obtain ⟨b12, eb12, h⟩ := h
    refine xr_getR (ci := 5) (C := RX5) (T := TX5) (N := 7) hx hb hL5 hown hK hh g11 (by decide) rfl 3 103 rfl rfl (by decide) (by decide) q4 (fun _ h9 => h9) eb12 dX5_setRetention_33 ?_
    refine lv_iload_n hx hb dX5_setRetention_36 rfl (lv_at hl 2 rfl) ?_
    refine lv_iload_n hx hb dX5_setRetention_37 rfl (lv_at hl 3 rfl) ?_
    obtain ⟨g13, h⟩ := h
    obtain ⟨g14, h⟩ := h
    refine xr_iast hx hb hK hh g13 hS g14 dX5_setRetention_38 (fun H locs hh hS => ?_)
    obtain ⟨m15, em15⟩ : ∃ z : MM, z = sAI m5 b12 (va_up (mAI m5 b12) p1.toNatClampNeg p2) := ⟨_, rfl⟩
    rw [← em15] at hh
    replace h := h m15 em15
    refine lv_aload_n hx hb dX5_setRetention_39 rfl (lv_at hl 1 rfl) ?_
    refine lv_iload_n hx hb dX5_setRetention_40 rfl (lv_at hl 2 rfl) ?_
    obtain ⟨g16, h⟩ := h
    refine xc_i (va_runV (As := [.int p1]) (rest := []) ⟨hx, hb, hml, hown, hts⟩ (mtq_X5_moveHorizon l G base h) (cwV 1 hts gX5_setRetention_X5_moveHorizon rfl rfl rfl (by decide +kernel) ⟨Nat.le_of_ble_eq_true rfl, Nat.le_of_ble_eq_true rfl⟩) (xp_V hbase hh hK hX hS (ci := 5) g16 (by decide) rfl) rfl rfl hl.1 rfl (lv_room (Nat.le_of_ble_eq_true rfl)) dX5_setRetention_41 ⟨Nat.le_of_ble_eq_true rfl, Nat.le_of_ble_eq_true rfl⟩) hS (fun r17 m18 H locs h hh hS => ?_)
    refine lv_pop hx hb dX5_setRetention_44 rfl ?_
    refine lv_iload_n hx hb dX5_setRetention_45 rfl (lv_at hl 0 rfl) ?_
    exact (xe_i hx hb hr hlocks hbase hh hK hX hS h (Nat.le_of_ble_eq_true rfl) (Nat.le_of_ble_eq_true rfl) dX5_setRetention_46)
  · replace h := h.2 c3
    refine lv_sipush (v := 7200) hx hb dX5_setRetention_12 (by decide) ?_
    refine lv_goto (tgt := 20) hx hb dX5_setRetention_15 (by decide) ?_
    refine lv_ldc hx hb hown q2 dX5_setRetention_20 ?_
    refine xc_v (va_runS (As := [.int p2, .int (7200 : Int32), .int (100000000 : Int32)]) (rest := []) ⟨hx, hb, hml, hown, hts⟩ (mtq_X5_needRange l G base h) (va_cwS 3 hts gX5_setRetention_X5_needRange rfl rfl rfl (by decide +kernel) ⟨Nat.le_of_ble_eq_true rfl, Nat.le_of_ble_eq_true rfl⟩) (xp_S hbase hh hK hX hS) rfl rfl hl.1 rfl (lv_room (Nat.le_of_ble_eq_true rfl)) dX5_setRetention_22 ⟨Nat.le_of_ble_eq_true rfl, Nat.le_of_ble_eq_true rfl⟩) hS (fun m20 H locs h hh hS => ?_)
    refine lv_aload_n hx hb dX5_setRetention_25 rfl (lv_at hl 0 rfl) ?_
    obtain ⟨g21, h⟩ := h
    obtain ⟨b22, eb22, h⟩ := h
    refine xr_getR (ci := 5) (C := RX5) (T := TX5) (N := 7) hx hb hL5 hown hK hh g21 (by decide) rfl 3 103 rfl rfl (by decide) (by decide) q4 (fun _ h9 => h9) eb22 dX5_setRetention_26 ?_
    refine lv_iload_n hx hb dX5_setRetention_29 rfl (lv_at hl 1 rfl) ?_
    obtain ⟨g23, h⟩ := h
    obtain ⟨g24, h⟩ := h
    refine xr_iald hx hb hK hh g23 g24 dX5_setRetention_30 ?_
    refine lv_topi (fun x25 ex25 => ?_)
    replace h := h x25 ex25
    refine lv_istore_n (lv' := [(3, .int x25), (0, .ref a0), (1, .int p1), (2, .int p2)]) hx hb dX5_setRetention_31 rfl hl (by decide) rfl (fun ls hl => ?_)
    refine lv_aload_n hx hb dX5_setRetention_32 rfl (lv_at hl 1 rfl) ?_
    obtain ⟨g26, h⟩ := h
    obtain ⟨b27, eb27, h⟩ := h
    refine xr_getR (ci := 5) (C := RX5) (T := TX5) (N := 7) hx hb hL5 hown hK hh g26 (by decide) rfl 3 103 rfl rfl (by decide) (by decide) q4 (fun _ h9 => h9) eb27 dX5_setRetention_33 ?_
    refine lv_iload_n hx hb dX5_setRetention_36 rfl (lv_at hl 2 rfl) ?_
    refine lv_iload_n hx hb dX5_setRetention_37 rfl (lv_at hl 3 rfl) ?_
    obtain ⟨g28, h⟩ := h
    obtain ⟨g29, h⟩ := h
    refine xr_iast hx hb hK hh g28 hS g29 dX5_setRetention_38 (fun H locs hh hS => ?_)
    obtain ⟨m30, em30⟩ : ∃ z : MM, z = sAI m20 b27 (va_up (mAI m20 b27) p1.toNatClampNeg p2) := ⟨_, rfl⟩
    rw [← em30] at hh
    replace h := h m30 em30
    refine lv_aload_n hx hb dX5_setRetention_39 rfl (lv_at hl 1 rfl) ?_
    refine lv_iload_n hx hb dX5_setRetention_40 rfl (lv_at hl 2 rfl) ?_
    obtain ⟨g31, h⟩ := h
    refine xc_i (va_runV (As := [.int p1]) (rest := []) ⟨hx, hb, hml, hown, hts⟩ (mtq_X5_moveHorizon l G base h) (cwV 1 hts gX5_setRetention_X5_moveHorizon rfl rfl rfl (by decide +kernel) ⟨Nat.le_of_ble_eq_true rfl, Nat.le_of_ble_eq_true rfl⟩) (xp_V hbase hh hK hX hS (ci := 5) g31 (by decide) rfl) rfl rfl hl.1 rfl (lv_room (Nat.le_of_ble_eq_true rfl)) dX5_setRetention_41 ⟨Nat.le_of_ble_eq_true rfl, Nat.le_of_ble_eq_true rfl⟩) hS (fun r32 m33 H locs h hh hS => ?_)
    refine lv_pop hx hb dX5_setRetention_44 rfl ?_
    refine lv_iload_n hx hb dX5_setRetention_45 rfl (lv_at hl 0 rfl) ?_
    exact (xe_i hx hb hr hlocks hbase hh hK hX hS h (Nat.le_of_ble_eq_true rfl) (Nat.le_of_ble_eq_true rfl) dX5_setRetention_46)
