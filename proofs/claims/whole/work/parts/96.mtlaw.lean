/-! EACH METHOD AS ITS wp SAYS: written by wip/whole/gen.py -/
set_option maxHeartbeats 4000000 in
set_option maxRecDepth 100000 in
theorem mt_L_addSeries (l : Launch) (hl9 : l.stackTraces = false) (G : GG) (base : Nat) {p1 : Nat} {p2 : Int32} {p3 : Nat} {m0 : MM} {Q : Int32 → MM → Prop} (h : wp_L_addSeries p1 p2 p3 m0 Q) : vx_Met l yL_addSeries wsL_addSeries ({ frames := 8, cells := 11, slots := 247, locals := 139 }) (va_Pc [.ref p1, .int p2, .ref p3] (SP G base m0)) (va_Qi Q (HB G base) (xA base)) (xX G base (fun _ _ => False)) 11 247 (xA base) := by
  refine vx_ofWH (cc := cL_addSeries) (maxL := 4) (ret := (some .int)) (hh := [(0, 9, 12, 13), (0, 9, 15, 15)]) (by decide) rfl ?_
  intro p e s m args below meth c s₁ B hml hv
  obtain ⟨rfl, hbase, hh, hK, hX⟩ := hv
  have C0 : BC p s m _ meth c G base RL cL_addSeries 4 (some .int) wsL_addSeries := ⟨B.exec, B.bytes, B.returns, hml, findClass_of_methodNamed B.named, atoms_spec (ws := wsL_addSeries) B.pre, B.notSynchronized, hK, hbase, hX⟩
  obtain ⟨hx, hb, hr, -, hown, hts, hlocks, -, -, -⟩ := id C0
  have hS : va_S (xA base) s.heap s.heap [] := va_S.rf
  have hl := lv_entry ([.ref p1, .int p2, .ref p3]) (n := 4) (Nat.le_of_ble_eq_true rfl)
  rw [lg_entry_eq]
  generalize (lg_sl ([.ref p1, .int p2, .ref p3]) ++ List.replicate (4 - (lg_sl ([.ref p1, .int p2, .ref p3])).length) Slot.unset).toArray = ls at hl ⊢
  have hl : lv_has ls 4 [(0, .ref p1), (1, .int p2), (2, .ref p3)] := hl
  have htab : c.exceptionTable.toList = tableOf [(0, 9, 12, 13), (0, 9, 15, 15)] := vx_table (x := yL_law) B (hts _ List.mem_cons_self)
  unfold wp_L_addSeries at h
  have q1 : (Cond.classLink RL 13 "java/lang/IllegalArgumentException").before _ s = true := hts _ (List.mem_cons_of_mem _ (List.mem_append_left _ (List.mem_append_left _ (List.mem_append_left _ (List.mem_append_left _ (List.mem_append_left _ (List.mem_append_left _ (List.mem_append_left _ (List.mem_of_getElem? (i := 0) rfl)))))))))
  have q2 : (Cond.classLink RL 15 "java/lang/IllegalStateException").before _ s = true := hts _ (List.mem_cons_of_mem _ (List.mem_append_left _ (List.mem_append_left _ (List.mem_append_left _ (List.mem_append_left _ (List.mem_append_left _ (List.mem_append_left _ (List.mem_append_left _ (List.mem_of_getElem? (i := 1) rfl)))))))))
  refine lv_aload_n hx hb dL_addSeries_0 rfl (lv_at hl 2 rfl) ?_
  refine lv_iconst (v := 0) hx hb dL_addSeries_1 (by decide) ?_
  refine lv_aload_n hx hb dL_addSeries_2 rfl (lv_at hl 0 rfl) ?_
  refine lv_iload_n hx hb dL_addSeries_3 rfl (lv_at hl 1 rfl) ?_
  obtain ⟨g1, h⟩ := h
  refine xt_i (vx_runV (As := [.int p2]) (rest := [.int (0 : Int32), .ref p3]) ⟨hx, hb, hml, hown, hts⟩ (mt_X5_addSeries l hl9 G base h) (cwV 1 hts gL_addSeries_X5_addSeries rfl rfl rfl (by decide +kernel) ⟨Nat.le_of_ble_eq_true rfl, Nat.le_of_ble_eq_true rfl⟩) (xp_V hbase hh hK hX hS (ci := 5) g1 (by decide) rfl) rfl rfl hl.1 rfl (lv_room (Nat.le_of_ble_eq_true rfl)) dL_addSeries_4 ⟨Nat.le_of_ble_eq_true rfl, Nat.le_of_ble_eq_true rfl⟩) hS (fun k9 m9 H locs q9 ce h hh hS hc9 hv9 hcl9 => ?_) (fun r2 m3 H locs h hh hS => ?_)
  · by_cases z0 : k9 = 0
    · subst z0
      have h := h.1 rfl
      exact h.elim
    · by_cases z1 : k9 = 1
      · subst z1
        have h := h.2.1 rfl
        refine vx_catch (name := xN 1) hown [] (⟨0, 9, 12, 13⟩ : ExceptionTableEntry) [(⟨0, 9, 15, 15⟩ : ExceptionTableEntry)] (htab.trans rfl) (fun z hz => absurd hz List.not_mem_nil) rfl (by decide) q1 (va_Nw.use rfl (hX.2.2.1 1)) hc9 hv9 hcl9 ?_
        refine W.eq (g2 := F0 m 12 ls [.ref q9]) rfl ?_
        refine lv_astore_n (lv' := [(3, .ref q9), (0, .ref p1), (1, .int p2), (2, .ref p3)]) hx hb dL_addSeries_12 rfl hl (by decide) rfl (fun ls hl => ?_)
        refine lv_iconst (v := 1) hx hb dL_addSeries_13 (by decide) ?_
        exact vx_ret (xe_i hx hb hr hlocks hbase hh hK hX hS h (Nat.le_of_ble_eq_true rfl) (Nat.le_of_ble_eq_true rfl) dL_addSeries_14)
      · rw [xN_2 z0 z1] at hcl9
        have h := h.2.2 z0 z1
        refine vx_catch (name := xN 2) hown [(⟨0, 9, 12, 13⟩ : ExceptionTableEntry)] (⟨0, 9, 15, 15⟩ : ExceptionTableEntry) [] (htab.trans rfl) (fun z hz => by
          have hz : z ∈ [(⟨0, 9, 12, 13⟩ : ExceptionTableEntry)] := hz
          rcases List.mem_cons.mp hz with rfl | hz
          · exact Or.inr ⟨by decide, xN 1, q1, hX.2.2.2.1 2 1 (by decide)⟩
          · exact absurd hz List.not_mem_nil) rfl (by decide) q2 (va_Nw.use rfl (hX.2.2.1 2)) hc9 hv9 hcl9 ?_
        refine W.eq (g2 := F0 m 15 ls [.ref q9]) rfl ?_
        refine lv_astore_n (lv' := [(3, .ref q9), (0, .ref p1), (1, .int p2), (2, .ref p3)]) hx hb dL_addSeries_15 rfl hl (by decide) rfl (fun ls hl => ?_)
        refine lv_iconst (v := 2) hx hb dL_addSeries_16 (by decide) ?_
        exact vx_ret (xe_i hx hb hr hlocks hbase hh hK hX hS h (Nat.le_of_ble_eq_true rfl) (Nat.le_of_ble_eq_true rfl) dL_addSeries_17)
  refine lv_i2l hx hb dL_addSeries_7 rfl ?_
  obtain ⟨g4, h⟩ := h
  obtain ⟨g5, h⟩ := h
  refine xr_last hx hb hK hh g4 hS g5 dL_addSeries_8 (fun H locs hh hS => ?_)
  obtain ⟨m6, em6⟩ : ∃ z : MM, z = sAJ m3 p3 (va_up (mAJ m3 p3) (0 : Int32).toNatClampNeg r2.toInt64) := ⟨_, rfl⟩
  rw [← em6] at hh
  replace h := h m6 em6
  refine lv_goto (tgt := 18) hx hb dL_addSeries_9 (by decide) ?_
  refine lv_iconst (v := 0) hx hb dL_addSeries_18 (by decide) ?_
  exact vx_ret (xe_i hx hb hr hlocks hbase hh hK hX hS h (Nat.le_of_ble_eq_true rfl) (Nat.le_of_ble_eq_true rfl) dL_addSeries_19)

set_option maxHeartbeats 4000000 in
set_option maxRecDepth 100000 in
theorem mt_L_advance (l : Launch) (hl9 : l.stackTraces = false) (G : GG) (base : Nat) {p1 : Nat} {p2 : Int32} {p3 : Nat} {m0 : MM} {Q : Int32 → MM → Prop} (h : wp_L_advance p1 p2 p3 m0 Q) : vx_Met l yL_advance wsL_advance ({ frames := 9, cells := 1, slots := 6, locals := 182 }) (va_Pc [.ref p1, .int p2, .ref p3] (SP G base m0)) (va_Qi Q (HB G base) (xA base)) (xX G base (fun _ _ => False)) 1 6 (xA base) := by
  refine vx_ofWH (cc := cL_advance) (maxL := 4) (ret := (some .int)) (hh := [(0, 9, 12, 13)]) (by decide) rfl ?_
  intro p e s m args below meth c s₁ B hml hv
  obtain ⟨rfl, hbase, hh, hK, hX⟩ := hv
  have C0 : BC p s m _ meth c G base RL cL_advance 4 (some .int) wsL_advance := ⟨B.exec, B.bytes, B.returns, hml, findClass_of_methodNamed B.named, atoms_spec (ws := wsL_advance) B.pre, B.notSynchronized, hK, hbase, hX⟩
  obtain ⟨hx, hb, hr, -, hown, hts, hlocks, -, -, -⟩ := id C0
  have hS : va_S (xA base) s.heap s.heap [] := va_S.rf
  have hl := lv_entry ([.ref p1, .int p2, .ref p3]) (n := 4) (Nat.le_of_ble_eq_true rfl)
  rw [lg_entry_eq]
  generalize (lg_sl ([.ref p1, .int p2, .ref p3]) ++ List.replicate (4 - (lg_sl ([.ref p1, .int p2, .ref p3])).length) Slot.unset).toArray = ls at hl ⊢
  have hl : lv_has ls 4 [(0, .ref p1), (1, .int p2), (2, .ref p3)] := hl
  have htab : c.exceptionTable.toList = tableOf [(0, 9, 12, 13)] := vx_table (x := yL_law) B (hts _ List.mem_cons_self)
  unfold wp_L_advance at h
  have q1 : (Cond.classLink RL 13 "java/lang/IllegalArgumentException").before _ s = true := hts _ (List.mem_cons_of_mem _ (List.mem_append_left _ (List.mem_append_left _ (List.mem_append_left _ (List.mem_append_left _ (List.mem_append_left _ (List.mem_append_left _ (List.mem_append_left _ (List.mem_append_left _ (List.mem_of_getElem? (i := 0) rfl))))))))))
  refine lv_aload_n hx hb dL_advance_0 rfl (lv_at hl 2 rfl) ?_
  refine lv_iconst (v := 0) hx hb dL_advance_1 (by decide) ?_
  refine lv_aload_n hx hb dL_advance_2 rfl (lv_at hl 0 rfl) ?_
  refine lv_iload_n hx hb dL_advance_3 rfl (lv_at hl 1 rfl) ?_
  obtain ⟨g1, h⟩ := h
  refine xt_i (vx_runV (As := [.int p2]) (rest := [.int (0 : Int32), .ref p3]) ⟨hx, hb, hml, hown, hts⟩ (mt_X5_advance l hl9 G base h) (cwV 1 hts gL_advance_X5_advance rfl rfl rfl (by decide +kernel) ⟨Nat.le_of_ble_eq_true rfl, Nat.le_of_ble_eq_true rfl⟩) (xp_V hbase hh hK hX hS (ci := 5) g1 (by decide) rfl) rfl rfl hl.1 rfl (lv_room (Nat.le_of_ble_eq_true rfl)) dL_advance_4 ⟨Nat.le_of_ble_eq_true rfl, Nat.le_of_ble_eq_true rfl⟩) hS (fun k9 m9 H locs q9 ce h hh hS hc9 hv9 hcl9 => ?_) (fun r2 m3 H locs h hh hS => ?_)
  · by_cases z0 : k9 = 0
    · subst z0
      have h := h.1 rfl
      exact h.elim
    · by_cases z1 : k9 = 1
      · subst z1
        have h := h.2.1 rfl
        refine vx_catch (name := xN 1) hown [] (⟨0, 9, 12, 13⟩ : ExceptionTableEntry) [] (htab.trans rfl) (fun z hz => absurd hz List.not_mem_nil) rfl (by decide) q1 (va_Nw.use rfl (hX.2.2.1 1)) hc9 hv9 hcl9 ?_
        refine W.eq (g2 := F0 m 12 ls [.ref q9]) rfl ?_
        refine lv_astore_n (lv' := [(3, .ref q9), (0, .ref p1), (1, .int p2), (2, .ref p3)]) hx hb dL_advance_12 rfl hl (by decide) rfl (fun ls hl => ?_)
        refine lv_iconst (v := 1) hx hb dL_advance_13 (by decide) ?_
        exact vx_ret (xe_i hx hb hr hlocks hbase hh hK hX hS h (Nat.le_of_ble_eq_true rfl) (Nat.le_of_ble_eq_true rfl) dL_advance_14)
      · rw [xN_2 z0 z1] at hcl9
        have h := h.2.2 z0 z1
        exact h.elim
  refine lv_i2l hx hb dL_advance_7 rfl ?_
  obtain ⟨g4, h⟩ := h
  obtain ⟨g5, h⟩ := h
  refine xr_last hx hb hK hh g4 hS g5 dL_advance_8 (fun H locs hh hS => ?_)
  obtain ⟨m6, em6⟩ : ∃ z : MM, z = sAJ m3 p3 (va_up (mAJ m3 p3) (0 : Int32).toNatClampNeg r2.toInt64) := ⟨_, rfl⟩
  rw [← em6] at hh
  replace h := h m6 em6
  refine lv_goto (tgt := 15) hx hb dL_advance_9 (by decide) ?_
  refine lv_iconst (v := 0) hx hb dL_advance_15 (by decide) ?_
  exact vx_ret (xe_i hx hb hr hlocks hbase hh hK hX hS h (Nat.le_of_ble_eq_true rfl) (Nat.le_of_ble_eq_true rfl) dL_advance_16)

set_option maxHeartbeats 4000000 in
set_option maxRecDepth 100000 in
theorem mt_L_average (l : Launch) (hl9 : l.stackTraces = false) (G : GG) (base : Nat) {p1 : Nat} {p2 : Int32} {p3 : Int32} {p4 : Int32} {p5 : Nat} {m0 : MM} {Q : Int32 → MM → Prop} (h : wp_L_average p1 p2 p3 p4 p5 m0 Q) : vx_Met l yL_average wsL_average ({ frames := 11, cells := 4, slots := 24, locals := 213 }) (va_Pc [.ref p1, .int p2, .int p3, .int p4, .ref p5] (SP G base m0)) (va_Qi Q (HB G base) (xA base)) (xX G base (fun _ _ => False)) 4 24 (xA base) := by
  refine vx_ofWH (cc := cL_average) (maxL := 6) (ret := (some .int)) (hh := [(0, 11, 14, 21), (0, 11, 18, 13), (0, 11, 22, 15)]) (by decide) rfl ?_
  intro p e s m args below meth c s₁ B hml hv
  obtain ⟨rfl, hbase, hh, hK, hX⟩ := hv
  have C0 : BC p s m _ meth c G base RL cL_average 6 (some .int) wsL_average := ⟨B.exec, B.bytes, B.returns, hml, findClass_of_methodNamed B.named, atoms_spec (ws := wsL_average) B.pre, B.notSynchronized, hK, hbase, hX⟩
  obtain ⟨hx, hb, hr, -, hown, hts, hlocks, -, -, -⟩ := id C0
  have hS : va_S (xA base) s.heap s.heap [] := va_S.rf
  have hl := lv_entry ([.ref p1, .int p2, .int p3, .int p4, .ref p5]) (n := 6) (Nat.le_of_ble_eq_true rfl)
  rw [lg_entry_eq]
  generalize (lg_sl ([.ref p1, .int p2, .int p3, .int p4, .ref p5]) ++ List.replicate (6 - (lg_sl ([.ref p1, .int p2, .int p3, .int p4, .ref p5])).length) Slot.unset).toArray = ls at hl ⊢
  have hl : lv_has ls 6 [(0, .ref p1), (1, .int p2), (2, .int p3), (3, .int p4), (4, .ref p5)] := hl
  have htab : c.exceptionTable.toList = tableOf [(0, 11, 14, 21), (0, 11, 18, 13), (0, 11, 22, 15)] := vx_table (x := yL_law) B (hts _ List.mem_cons_self)
  unfold wp_L_average at h
  have q1 : (Cond.classLink RL 21 "java/lang/IndexOutOfBoundsException").before _ s = true := hts _ (List.mem_cons_of_mem _ (List.mem_append_left _ (List.mem_append_left _ (List.mem_append_left _ (List.mem_append_left _ (List.mem_append_left _ (List.mem_append_left _ (List.mem_append_left _ (List.mem_append_left _ (List.mem_of_getElem? (i := 0) rfl))))))))))
  have q2 : (Cond.classLink RL 13 "java/lang/IllegalArgumentException").before _ s = true := hts _ (List.mem_cons_of_mem _ (List.mem_append_left _ (List.mem_append_left _ (List.mem_append_left _ (List.mem_append_left _ (List.mem_append_left _ (List.mem_append_left _ (List.mem_append_left _ (List.mem_append_left _ (List.mem_of_getElem? (i := 1) rfl))))))))))
  have q3 : (Cond.classLink RL 15 "java/lang/IllegalStateException").before _ s = true := hts _ (List.mem_cons_of_mem _ (List.mem_append_left _ (List.mem_append_left _ (List.mem_append_left _ (List.mem_append_left _ (List.mem_append_left _ (List.mem_append_left _ (List.mem_append_left _ (List.mem_append_left _ (List.mem_of_getElem? (i := 2) rfl))))))))))
  refine lv_aload hx hb dL_average_0 (lv_at hl 4 rfl) ?_
  refine lv_iconst (v := 0) hx hb dL_average_2 (by decide) ?_
  refine lv_aload_n hx hb dL_average_3 rfl (lv_at hl 0 rfl) ?_
  refine lv_iload_n hx hb dL_average_4 rfl (lv_at hl 1 rfl) ?_
  refine lv_iload_n hx hb dL_average_5 rfl (lv_at hl 2 rfl) ?_
  refine lv_iload_n hx hb dL_average_6 rfl (lv_at hl 3 rfl) ?_
  obtain ⟨g1, h⟩ := h
  refine xt_d (vx_runV (As := [.int p2, .int p3, .int p4]) (rest := [.int (0 : Int32), .ref p5]) ⟨hx, hb, hml, hown, hts⟩ (mt_X5_average l hl9 G base h) (cwV 3 hts gL_average_X5_average rfl rfl rfl (by decide +kernel) ⟨Nat.le_of_ble_eq_true rfl, Nat.le_of_ble_eq_true rfl⟩) (xp_V hbase hh hK hX hS (ci := 5) g1 (by decide) rfl) rfl rfl hl.1 rfl (lv_room (Nat.le_of_ble_eq_true rfl)) dL_average_7 ⟨Nat.le_of_ble_eq_true rfl, Nat.le_of_ble_eq_true rfl⟩) hS (fun k9 m9 H locs q9 ce h hh hS hc9 hv9 hcl9 => ?_) (fun r2 m3 H locs h hh hS => ?_)
  · by_cases z0 : k9 = 0
    · subst z0
      have h := h.1 rfl
      refine vx_catch (name := xN 0) hown [] (⟨0, 11, 14, 21⟩ : ExceptionTableEntry) [(⟨0, 11, 18, 13⟩ : ExceptionTableEntry), (⟨0, 11, 22, 15⟩ : ExceptionTableEntry)] (htab.trans rfl) (fun z hz => absurd hz List.not_mem_nil) rfl (by decide) q1 (va_Nw.use rfl (hX.2.2.1 0)) hc9 hv9 hcl9 ?_
      refine W.eq (g2 := F0 m 14 ls [.ref q9]) rfl ?_
      refine lv_astore (lv' := [(5, .ref q9), (0, .ref p1), (1, .int p2), (2, .int p3), (3, .int p4), (4, .ref p5)]) hx hb dL_average_14 hl (by decide) rfl (fun ls hl => ?_)
      refine lv_iconst (v := 1) hx hb dL_average_16 (by decide) ?_
      exact vx_ret (xe_i hx hb hr hlocks hbase hh hK hX hS h (Nat.le_of_ble_eq_true rfl) (Nat.le_of_ble_eq_true rfl) dL_average_17)
    · by_cases z1 : k9 = 1
      · subst z1
        have h := h.2.1 rfl
        refine vx_catch (name := xN 1) hown [(⟨0, 11, 14, 21⟩ : ExceptionTableEntry)] (⟨0, 11, 18, 13⟩ : ExceptionTableEntry) [(⟨0, 11, 22, 15⟩ : ExceptionTableEntry)] (htab.trans rfl) (fun z hz => by
          have hz : z ∈ [(⟨0, 11, 14, 21⟩ : ExceptionTableEntry)] := hz
          rcases List.mem_cons.mp hz with rfl | hz
          · exact Or.inr ⟨by decide, xN 0, q1, hX.2.2.2.1 1 0 (by decide)⟩
          · exact absurd hz List.not_mem_nil) rfl (by decide) q2 (va_Nw.use rfl (hX.2.2.1 1)) hc9 hv9 hcl9 ?_
        refine W.eq (g2 := F0 m 18 ls [.ref q9]) rfl ?_
        refine lv_astore (lv' := [(5, .ref q9), (0, .ref p1), (1, .int p2), (2, .int p3), (3, .int p4), (4, .ref p5)]) hx hb dL_average_18 hl (by decide) rfl (fun ls hl => ?_)
        refine lv_iconst (v := 2) hx hb dL_average_20 (by decide) ?_
        exact vx_ret (xe_i hx hb hr hlocks hbase hh hK hX hS h (Nat.le_of_ble_eq_true rfl) (Nat.le_of_ble_eq_true rfl) dL_average_21)
      · rw [xN_2 z0 z1] at hcl9
        have h := h.2.2 z0 z1
        refine vx_catch (name := xN 2) hown [(⟨0, 11, 14, 21⟩ : ExceptionTableEntry), (⟨0, 11, 18, 13⟩ : ExceptionTableEntry)] (⟨0, 11, 22, 15⟩ : ExceptionTableEntry) [] (htab.trans rfl) (fun z hz => by
          have hz : z ∈ [(⟨0, 11, 14, 21⟩ : ExceptionTableEntry), (⟨0, 11, 18, 13⟩ : ExceptionTableEntry)] := hz
          rcases List.mem_cons.mp hz with rfl | hz
          · exact Or.inr ⟨by decide, xN 0, q1, hX.2.2.2.1 2 0 (by decide)⟩
          · rcases List.mem_cons.mp hz with rfl | hz
            · exact Or.inr ⟨by decide, xN 1, q2, hX.2.2.2.1 2 1 (by decide)⟩
            · exact absurd hz List.not_mem_nil) rfl (by decide) q3 (va_Nw.use rfl (hX.2.2.1 2)) hc9 hv9 hcl9 ?_
        refine W.eq (g2 := F0 m 22 ls [.ref q9]) rfl ?_
        refine lv_astore (lv' := [(5, .ref q9), (0, .ref p1), (1, .int p2), (2, .int p3), (3, .int p4), (4, .ref p5)]) hx hb dL_average_22 hl (by decide) rfl (fun ls hl => ?_)
        refine lv_iconst (v := 3) hx hb dL_average_24 (by decide) ?_
        exact vx_ret (xe_i hx hb hr hlocks hbase hh hK hX hS h (Nat.le_of_ble_eq_true rfl) (Nat.le_of_ble_eq_true rfl) dL_average_25)
  obtain ⟨g4, h⟩ := h
  obtain ⟨g5, h⟩ := h
  refine xr_dast hx hb hK hh g4 hS g5 dL_average_10 (fun H locs hh hS => ?_)
  obtain ⟨m6, em6⟩ : ∃ z : MM, z = sAD m3 p5 (va_up (mAD m3 p5) (0 : Int32).toNatClampNeg r2) := ⟨_, rfl⟩
  rw [← em6] at hh
  replace h := h m6 em6
  refine lv_goto (tgt := 26) hx hb dL_average_11 (by decide) ?_
  refine lv_iconst (v := 0) hx hb dL_average_26 (by decide) ?_
  exact vx_ret (xe_i hx hb hr hlocks hbase hh hK hX hS h (Nat.le_of_ble_eq_true rfl) (Nat.le_of_ble_eq_true rfl) dL_average_27)

set_option maxHeartbeats 4000000 in
set_option maxRecDepth 100000 in
theorem mt_L_count (l : Launch) (hl9 : l.stackTraces = false) (G : GG) (base : Nat) {p1 : Nat} {p2 : Int32} {p3 : Int32} {p4 : Int32} {p5 : Nat} {m0 : MM} {Q : Int32 → MM → Prop} (h : wp_L_count p1 p2 p3 p4 p5 m0 Q) : vx_Met l yL_count wsL_count ({ frames := 11, cells := 4, slots := 24, locals := 212 }) (va_Pc [.ref p1, .int p2, .int p3, .int p4, .ref p5] (SP G base m0)) (va_Qi Q (HB G base) (xA base)) (xX G base (fun _ _ => False)) 4 24 (xA base) := by
  refine vx_ofWH (cc := cL_count) (maxL := 6) (ret := (some .int)) (hh := [(0, 12, 15, 21), (0, 12, 19, 13), (0, 12, 23, 15)]) (by decide) rfl ?_
  intro p e s m args below meth c s₁ B hml hv
  obtain ⟨rfl, hbase, hh, hK, hX⟩ := hv
  have C0 : BC p s m _ meth c G base RL cL_count 6 (some .int) wsL_count := ⟨B.exec, B.bytes, B.returns, hml, findClass_of_methodNamed B.named, atoms_spec (ws := wsL_count) B.pre, B.notSynchronized, hK, hbase, hX⟩
  obtain ⟨hx, hb, hr, -, hown, hts, hlocks, -, -, -⟩ := id C0
  have hS : va_S (xA base) s.heap s.heap [] := va_S.rf
  have hl := lv_entry ([.ref p1, .int p2, .int p3, .int p4, .ref p5]) (n := 6) (Nat.le_of_ble_eq_true rfl)
  rw [lg_entry_eq]
  generalize (lg_sl ([.ref p1, .int p2, .int p3, .int p4, .ref p5]) ++ List.replicate (6 - (lg_sl ([.ref p1, .int p2, .int p3, .int p4, .ref p5])).length) Slot.unset).toArray = ls at hl ⊢
  have hl : lv_has ls 6 [(0, .ref p1), (1, .int p2), (2, .int p3), (3, .int p4), (4, .ref p5)] := hl
  have htab : c.exceptionTable.toList = tableOf [(0, 12, 15, 21), (0, 12, 19, 13), (0, 12, 23, 15)] := vx_table (x := yL_law) B (hts _ List.mem_cons_self)
  unfold wp_L_count at h
  have q1 : (Cond.classLink RL 21 "java/lang/IndexOutOfBoundsException").before _ s = true := hts _ (List.mem_cons_of_mem _ (List.mem_append_left _ (List.mem_append_left _ (List.mem_append_left _ (List.mem_append_left _ (List.mem_append_left _ (List.mem_append_left _ (List.mem_append_left _ (List.mem_append_left _ (List.mem_of_getElem? (i := 0) rfl))))))))))
  have q2 : (Cond.classLink RL 13 "java/lang/IllegalArgumentException").before _ s = true := hts _ (List.mem_cons_of_mem _ (List.mem_append_left _ (List.mem_append_left _ (List.mem_append_left _ (List.mem_append_left _ (List.mem_append_left _ (List.mem_append_left _ (List.mem_append_left _ (List.mem_append_left _ (List.mem_of_getElem? (i := 1) rfl))))))))))
  have q3 : (Cond.classLink RL 15 "java/lang/IllegalStateException").before _ s = true := hts _ (List.mem_cons_of_mem _ (List.mem_append_left _ (List.mem_append_left _ (List.mem_append_left _ (List.mem_append_left _ (List.mem_append_left _ (List.mem_append_left _ (List.mem_append_left _ (List.mem_append_left _ (List.mem_of_getElem? (i := 2) rfl))))))))))
  refine lv_aload hx hb dL_count_0 (lv_at hl 4 rfl) ?_
  refine lv_iconst (v := 0) hx hb dL_count_2 (by decide) ?_
  refine lv_aload_n hx hb dL_count_3 rfl (lv_at hl 0 rfl) ?_
  refine lv_iload_n hx hb dL_count_4 rfl (lv_at hl 1 rfl) ?_
  refine lv_iload_n hx hb dL_count_5 rfl (lv_at hl 2 rfl) ?_
  refine lv_iload_n hx hb dL_count_6 rfl (lv_at hl 3 rfl) ?_
  obtain ⟨g1, h⟩ := h
  refine xt_i (vx_runV (As := [.int p2, .int p3, .int p4]) (rest := [.int (0 : Int32), .ref p5]) ⟨hx, hb, hml, hown, hts⟩ (mt_X5_count l hl9 G base h) (cwV 3 hts gL_count_X5_count rfl rfl rfl (by decide +kernel) ⟨Nat.le_of_ble_eq_true rfl, Nat.le_of_ble_eq_true rfl⟩) (xp_V hbase hh hK hX hS (ci := 5) g1 (by decide) rfl) rfl rfl hl.1 rfl (lv_room (Nat.le_of_ble_eq_true rfl)) dL_count_7 ⟨Nat.le_of_ble_eq_true rfl, Nat.le_of_ble_eq_true rfl⟩) hS (fun k9 m9 H locs q9 ce h hh hS hc9 hv9 hcl9 => ?_) (fun r2 m3 H locs h hh hS => ?_)
  · by_cases z0 : k9 = 0
    · subst z0
      have h := h.1 rfl
      refine vx_catch (name := xN 0) hown [] (⟨0, 12, 15, 21⟩ : ExceptionTableEntry) [(⟨0, 12, 19, 13⟩ : ExceptionTableEntry), (⟨0, 12, 23, 15⟩ : ExceptionTableEntry)] (htab.trans rfl) (fun z hz => absurd hz List.not_mem_nil) rfl (by decide) q1 (va_Nw.use rfl (hX.2.2.1 0)) hc9 hv9 hcl9 ?_
      refine W.eq (g2 := F0 m 15 ls [.ref q9]) rfl ?_
      refine lv_astore (lv' := [(5, .ref q9), (0, .ref p1), (1, .int p2), (2, .int p3), (3, .int p4), (4, .ref p5)]) hx hb dL_count_15 hl (by decide) rfl (fun ls hl => ?_)
      refine lv_iconst (v := 1) hx hb dL_count_17 (by decide) ?_
      exact vx_ret (xe_i hx hb hr hlocks hbase hh hK hX hS h (Nat.le_of_ble_eq_true rfl) (Nat.le_of_ble_eq_true rfl) dL_count_18)
    · by_cases z1 : k9 = 1
      · subst z1
        have h := h.2.1 rfl
        refine vx_catch (name := xN 1) hown [(⟨0, 12, 15, 21⟩ : ExceptionTableEntry)] (⟨0, 12, 19, 13⟩ : ExceptionTableEntry) [(⟨0, 12, 23, 15⟩ : ExceptionTableEntry)] (htab.trans rfl) (fun z hz => by
          have hz : z ∈ [(⟨0, 12, 15, 21⟩ : ExceptionTableEntry)] := hz
          rcases List.mem_cons.mp hz with rfl | hz
          · exact Or.inr ⟨by decide, xN 0, q1, hX.2.2.2.1 1 0 (by decide)⟩
          · exact absurd hz List.not_mem_nil) rfl (by decide) q2 (va_Nw.use rfl (hX.2.2.1 1)) hc9 hv9 hcl9 ?_
        refine W.eq (g2 := F0 m 19 ls [.ref q9]) rfl ?_
        refine lv_astore (lv' := [(5, .ref q9), (0, .ref p1), (1, .int p2), (2, .int p3), (3, .int p4), (4, .ref p5)]) hx hb dL_count_19 hl (by decide) rfl (fun ls hl => ?_)
        refine lv_iconst (v := 2) hx hb dL_count_21 (by decide) ?_
        exact vx_ret (xe_i hx hb hr hlocks hbase hh hK hX hS h (Nat.le_of_ble_eq_true rfl) (Nat.le_of_ble_eq_true rfl) dL_count_22)
      · rw [xN_2 z0 z1] at hcl9
        have h := h.2.2 z0 z1
        refine vx_catch (name := xN 2) hown [(⟨0, 12, 15, 21⟩ : ExceptionTableEntry), (⟨0, 12, 19, 13⟩ : ExceptionTableEntry)] (⟨0, 12, 23, 15⟩ : ExceptionTableEntry) [] (htab.trans rfl) (fun z hz => by
          have hz : z ∈ [(⟨0, 12, 15, 21⟩ : ExceptionTableEntry), (⟨0, 12, 19, 13⟩ : ExceptionTableEntry)] := hz
          rcases List.mem_cons.mp hz with rfl | hz
          · exact Or.inr ⟨by decide, xN 0, q1, hX.2.2.2.1 2 0 (by decide)⟩
          · rcases List.mem_cons.mp hz with rfl | hz
            · exact Or.inr ⟨by decide, xN 1, q2, hX.2.2.2.1 2 1 (by decide)⟩
            · exact absurd hz List.not_mem_nil) rfl (by decide) q3 (va_Nw.use rfl (hX.2.2.1 2)) hc9 hv9 hcl9 ?_
        refine W.eq (g2 := F0 m 23 ls [.ref q9]) rfl ?_
        refine lv_astore (lv' := [(5, .ref q9), (0, .ref p1), (1, .int p2), (2, .int p3), (3, .int p4), (4, .ref p5)]) hx hb dL_count_23 hl (by decide) rfl (fun ls hl => ?_)
        refine lv_iconst (v := 3) hx hb dL_count_25 (by decide) ?_
        exact vx_ret (xe_i hx hb hr hlocks hbase hh hK hX hS h (Nat.le_of_ble_eq_true rfl) (Nat.le_of_ble_eq_true rfl) dL_count_26)
  refine lv_i2l hx hb dL_count_10 rfl ?_
  obtain ⟨g4, h⟩ := h
  obtain ⟨g5, h⟩ := h
  refine xr_last hx hb hK hh g4 hS g5 dL_count_11 (fun H locs hh hS => ?_)
  obtain ⟨m6, em6⟩ : ∃ z : MM, z = sAJ m3 p5 (va_up (mAJ m3 p5) (0 : Int32).toNatClampNeg r2.toInt64) := ⟨_, rfl⟩
  rw [← em6] at hh
  replace h := h m6 em6
  refine lv_goto (tgt := 27) hx hb dL_count_12 (by decide) ?_
  refine lv_iconst (v := 0) hx hb dL_count_27 (by decide) ?_
  exact vx_ret (xe_i hx hb hr hlocks hbase hh hK hX hS h (Nat.le_of_ble_eq_true rfl) (Nat.le_of_ble_eq_true rfl) dL_count_28)

set_option maxHeartbeats 4000000 in
set_option maxRecDepth 100000 in
theorem mt_L_erase (l : Launch) (hl9 : l.stackTraces = false) (G : GG) (base : Nat) {p1 : Nat} {p2 : Int32} {p3 : Int32} {p4 : Nat} {m0 : MM} {Q : Int32 → MM → Prop} {kc ks : Nat} (h : wp_L_erase p1 p2 p3 p4 m0 Q kc ks) : vx_Met l yL_erase wsL_erase ({ frames := 8, cells := kc, slots := ks, locals := 211 }) (va_Pc [.ref p1, .int p2, .int p3, .ref p4] (SP G base m0)) (va_Qi Q (HB G base) (xA base)) (xX G base (fun _ _ => False)) kc ks (xA base) := by
  refine vx_ofWH (cc := cL_erase) (maxL := 5) (ret := (some .int)) (hh := [(0, 10, 13, 21), (0, 10, 17, 15)]) (by decide) rfl ?_
  intro p e s m args below meth c s₁ B hml hv
  obtain ⟨rfl, hbase, hh, hK, hX⟩ := hv
  have C0 : BC p s m _ meth c G base RL cL_erase 5 (some .int) wsL_erase := ⟨B.exec, B.bytes, B.returns, hml, findClass_of_methodNamed B.named, atoms_spec (ws := wsL_erase) B.pre, B.notSynchronized, hK, hbase, hX⟩
  obtain ⟨hx, hb, hr, -, hown, hts, hlocks, -, -, -⟩ := id C0
  have hS : va_S (xA base) s.heap s.heap [] := va_S.rf
  have hl := lv_entry ([.ref p1, .int p2, .int p3, .ref p4]) (n := 5) (Nat.le_of_ble_eq_true rfl)
  rw [lg_entry_eq]
  generalize (lg_sl ([.ref p1, .int p2, .int p3, .ref p4]) ++ List.replicate (5 - (lg_sl ([.ref p1, .int p2, .int p3, .ref p4])).length) Slot.unset).toArray = ls at hl ⊢
  have hl : lv_has ls 5 [(0, .ref p1), (1, .int p2), (2, .int p3), (3, .ref p4)] := hl
  have htab : c.exceptionTable.toList = tableOf [(0, 10, 13, 21), (0, 10, 17, 15)] := vx_table (x := yL_law) B (hts _ List.mem_cons_self)
  unfold wp_L_erase at h
  have hcc : 0 + kc ≤ kc := by omega
  have hss : 0 + ks ≤ ks := by omega
  have q1 : (Cond.classLink RL 21 "java/lang/IndexOutOfBoundsException").before _ s = true := hts _ (List.mem_cons_of_mem _ (List.mem_append_left _ (List.mem_append_left _ (List.mem_append_left _ (List.mem_append_left _ (List.mem_append_left _ (List.mem_append_left _ (List.mem_append_left _ (List.mem_append_left _ (List.mem_of_getElem? (i := 0) rfl))))))))))
  have q2 : (Cond.classLink RL 15 "java/lang/IllegalStateException").before _ s = true := hts _ (List.mem_cons_of_mem _ (List.mem_append_left _ (List.mem_append_left _ (List.mem_append_left _ (List.mem_append_left _ (List.mem_append_left _ (List.mem_append_left _ (List.mem_append_left _ (List.mem_append_left _ (List.mem_of_getElem? (i := 1) rfl))))))))))
  refine lv_aload_n hx hb dL_erase_0 rfl (lv_at hl 3 rfl) ?_
  refine lv_iconst (v := 0) hx hb dL_erase_1 (by decide) ?_
  refine lv_aload_n hx hb dL_erase_2 rfl (lv_at hl 0 rfl) ?_
  refine lv_iload_n hx hb dL_erase_3 rfl (lv_at hl 1 rfl) ?_
  refine lv_iload_n hx hb dL_erase_4 rfl (lv_at hl 2 rfl) ?_
  obtain ⟨c1, s2, g3, g4, h⟩ := h
  obtain ⟨g5, h⟩ := h
  refine xt_i (vx_runV (As := [.int p2, .int p3]) (rest := [.int (0 : Int32), .ref p4]) ⟨hx, hb, hml, hown, hts⟩ (mt_X5_erase l hl9 G base h) (cwV 2 hts gL_erase_X5_erase rfl rfl rfl (by decide +kernel) ⟨Nat.le_of_ble_eq_true rfl, Nat.le_of_ble_eq_true rfl⟩) (xp_V hbase hh hK hX hS (ci := 5) g5 (by decide) rfl) rfl rfl hl.1 rfl (lv_room (Nat.le_of_ble_eq_true rfl)) dL_erase_5 ⟨by show _ ≤ kc; omega, by show _ ≤ ks; omega⟩) hS (fun k9 m9 H locs q9 ce h hh hS hc9 hv9 hcl9 => ?_) (fun r6 m7 H locs h hh hS => ?_)
  · by_cases z0 : k9 = 0
    · subst z0
      have h := h.1 rfl
      refine vx_catch (name := xN 0) hown [] (⟨0, 10, 13, 21⟩ : ExceptionTableEntry) [(⟨0, 10, 17, 15⟩ : ExceptionTableEntry)] (htab.trans rfl) (fun z hz => absurd hz List.not_mem_nil) rfl (by decide) q1 (va_Nw.use rfl (hX.2.2.1 0)) hc9 hv9 hcl9 ?_
      refine W.eq (g2 := F0 m 13 ls [.ref q9]) rfl ?_
      refine lv_astore (lv' := [(4, .ref q9), (0, .ref p1), (1, .int p2), (2, .int p3), (3, .ref p4)]) hx hb dL_erase_13 hl (by decide) rfl (fun ls hl => ?_)
      refine lv_iconst (v := 1) hx hb dL_erase_15 (by decide) ?_
      exact vx_ret (xe_i hx hb hr hlocks hbase hh hK hX hS h (by omega) (by omega) dL_erase_16)
    · by_cases z1 : k9 = 1
      · subst z1
        have h := h.2.1 rfl
        exact h.elim
      · rw [xN_2 z0 z1] at hcl9
        have h := h.2.2 z0 z1
        refine vx_catch (name := xN 2) hown [(⟨0, 10, 13, 21⟩ : ExceptionTableEntry)] (⟨0, 10, 17, 15⟩ : ExceptionTableEntry) [] (htab.trans rfl) (fun z hz => by
          have hz : z ∈ [(⟨0, 10, 13, 21⟩ : ExceptionTableEntry)] := hz
          rcases List.mem_cons.mp hz with rfl | hz
          · exact Or.inr ⟨by decide, xN 0, q1, hX.2.2.2.1 2 0 (by decide)⟩
          · exact absurd hz List.not_mem_nil) rfl (by decide) q2 (va_Nw.use rfl (hX.2.2.1 2)) hc9 hv9 hcl9 ?_
        refine W.eq (g2 := F0 m 17 ls [.ref q9]) rfl ?_
        refine lv_astore (lv' := [(4, .ref q9), (0, .ref p1), (1, .int p2), (2, .int p3), (3, .ref p4)]) hx hb dL_erase_17 hl (by decide) rfl (fun ls hl => ?_)
        refine lv_iconst (v := 2) hx hb dL_erase_19 (by decide) ?_
        exact vx_ret (xe_i hx hb hr hlocks hbase hh hK hX hS h (by omega) (by omega) dL_erase_20)
  obtain ⟨kc8, ekc8⟩ : ∃ z : Nat, z = kc - c1 := ⟨_, rfl⟩
  obtain ⟨ks9, eks9⟩ : ∃ z : Nat, z = ks - s2 := ⟨_, rfl⟩
  replace h := h kc8 ks9 ekc8 eks9
  obtain ⟨cl10, ecl10⟩ : ∃ z : Nat, z = 0 + c1 := ⟨_, rfl⟩
  obtain ⟨sl11, esl11⟩ : ∃ z : Nat, z = 0 + s2 := ⟨_, rfl⟩
  refine W_cs ecl10 esl11 ?_
  have hcc : cl10 + kc8 ≤ kc := by omega
  have hss : sl11 + ks9 ≤ ks := by omega
  refine lv_i2l hx hb dL_erase_8 rfl ?_
  obtain ⟨g12, h⟩ := h
  obtain ⟨g13, h⟩ := h
  refine xr_last hx hb hK hh g12 hS g13 dL_erase_9 (fun H locs hh hS => ?_)
  obtain ⟨m14, em14⟩ : ∃ z : MM, z = sAJ m7 p4 (va_up (mAJ m7 p4) (0 : Int32).toNatClampNeg r6.toInt64) := ⟨_, rfl⟩
  rw [← em14] at hh
  replace h := h m14 em14
  refine lv_goto (tgt := 21) hx hb dL_erase_10 (by decide) ?_
  refine lv_iconst (v := 0) hx hb dL_erase_21 (by decide) ?_
  exact vx_ret (xe_i hx hb hr hlocks hbase hh hK hX hS h (by omega) (by omega) dL_erase_22)

set_option maxHeartbeats 4000000 in
set_option maxRecDepth 100000 in
theorem mt_L_filled (l : Launch) (hl9 : l.stackTraces = false) (G : GG) (base : Nat) {p1 : Nat} {p2 : Int32} {p3 : Int32} {p4 : Int32} {p5 : Int32} {p6 : Nat} {m0 : MM} {Q : Int32 → MM → Prop} (h : wp_L_filled p1 p2 p3 p4 p5 p6 m0 Q) : vx_Met l yL_filled wsL_filled ({ frames := 9, cells := 5, slots := 30, locals := 171 }) (va_Pc [.ref p1, .int p2, .int p3, .int p4, .int p5, .ref p6] (SP G base m0)) (va_Qi Q (HB G base) (xA base)) (xX G base (fun _ _ => False)) 5 30 (xA base) := by
  refine vx_ofWH (cc := cL_filled) (maxL := 7) (ret := (some .int)) (hh := [(0, 14, 17, 21), (0, 14, 21, 13), (0, 14, 25, 15)]) (by decide) rfl ?_
  intro p e s m args below meth c s₁ B hml hv
  obtain ⟨rfl, hbase, hh, hK, hX⟩ := hv
  have C0 : BC p s m _ meth c G base RL cL_filled 7 (some .int) wsL_filled := ⟨B.exec, B.bytes, B.returns, hml, findClass_of_methodNamed B.named, atoms_spec (ws := wsL_filled) B.pre, B.notSynchronized, hK, hbase, hX⟩
  obtain ⟨hx, hb, hr, -, hown, hts, hlocks, -, -, -⟩ := id C0
  have hS : va_S (xA base) s.heap s.heap [] := va_S.rf
  have hl := lv_entry ([.ref p1, .int p2, .int p3, .int p4, .int p5, .ref p6]) (n := 7) (Nat.le_of_ble_eq_true rfl)
  rw [lg_entry_eq]
  generalize (lg_sl ([.ref p1, .int p2, .int p3, .int p4, .int p5, .ref p6]) ++ List.replicate (7 - (lg_sl ([.ref p1, .int p2, .int p3, .int p4, .int p5, .ref p6])).length) Slot.unset).toArray = ls at hl ⊢
  have hl : lv_has ls 7 [(0, .ref p1), (1, .int p2), (2, .int p3), (3, .int p4), (4, .int p5), (5, .ref p6)] := hl
  have htab : c.exceptionTable.toList = tableOf [(0, 14, 17, 21), (0, 14, 21, 13), (0, 14, 25, 15)] := vx_table (x := yL_law) B (hts _ List.mem_cons_self)
  unfold wp_L_filled at h
  have q1 : (Cond.classLink RL 21 "java/lang/IndexOutOfBoundsException").before _ s = true := hts _ (List.mem_cons_of_mem _ (List.mem_append_left _ (List.mem_append_left _ (List.mem_append_left _ (List.mem_append_left _ (List.mem_append_left _ (List.mem_append_left _ (List.mem_append_left _ (List.mem_append_left _ (List.mem_of_getElem? (i := 0) rfl))))))))))
  have q2 : (Cond.classLink RL 13 "java/lang/IllegalArgumentException").before _ s = true := hts _ (List.mem_cons_of_mem _ (List.mem_append_left _ (List.mem_append_left _ (List.mem_append_left _ (List.mem_append_left _ (List.mem_append_left _ (List.mem_append_left _ (List.mem_append_left _ (List.mem_append_left _ (List.mem_of_getElem? (i := 1) rfl))))))))))
  have q3 : (Cond.classLink RL 15 "java/lang/IllegalStateException").before _ s = true := hts _ (List.mem_cons_of_mem _ (List.mem_append_left _ (List.mem_append_left _ (List.mem_append_left _ (List.mem_append_left _ (List.mem_append_left _ (List.mem_append_left _ (List.mem_append_left _ (List.mem_append_left _ (List.mem_of_getElem? (i := 2) rfl))))))))))
  refine lv_aload hx hb dL_filled_0 (lv_at hl 5 rfl) ?_
  refine lv_iconst (v := 0) hx hb dL_filled_2 (by decide) ?_
  refine lv_aload_n hx hb dL_filled_3 rfl (lv_at hl 0 rfl) ?_
  refine lv_iload_n hx hb dL_filled_4 rfl (lv_at hl 1 rfl) ?_
  refine lv_iload_n hx hb dL_filled_5 rfl (lv_at hl 2 rfl) ?_
  refine lv_iload_n hx hb dL_filled_6 rfl (lv_at hl 3 rfl) ?_
  refine lv_iload hx hb dL_filled_7 (lv_at hl 4 rfl) ?_
  obtain ⟨g1, h⟩ := h
  refine xt_i (vx_runV (As := [.int p2, .int p3, .int p4, .int p5]) (rest := [.int (0 : Int32), .ref p6]) ⟨hx, hb, hml, hown, hts⟩ (mt_X5_filled l hl9 G base h) (cwV 4 hts gL_filled_X5_filled rfl rfl rfl (by decide +kernel) ⟨Nat.le_of_ble_eq_true rfl, Nat.le_of_ble_eq_true rfl⟩) (xp_V hbase hh hK hX hS (ci := 5) g1 (by decide) rfl) rfl rfl hl.1 rfl (lv_room (Nat.le_of_ble_eq_true rfl)) dL_filled_9 ⟨Nat.le_of_ble_eq_true rfl, Nat.le_of_ble_eq_true rfl⟩) hS (fun k9 m9 H locs q9 ce h hh hS hc9 hv9 hcl9 => ?_) (fun r2 m3 H locs h hh hS => ?_)
  · by_cases z0 : k9 = 0
    · subst z0
      have h := h.1 rfl
      refine vx_catch (name := xN 0) hown [] (⟨0, 14, 17, 21⟩ : ExceptionTableEntry) [(⟨0, 14, 21, 13⟩ : ExceptionTableEntry), (⟨0, 14, 25, 15⟩ : ExceptionTableEntry)] (htab.trans rfl) (fun z hz => absurd hz List.not_mem_nil) rfl (by decide) q1 (va_Nw.use rfl (hX.2.2.1 0)) hc9 hv9 hcl9 ?_
      refine W.eq (g2 := F0 m 17 ls [.ref q9]) rfl ?_
      refine lv_astore (lv' := [(6, .ref q9), (0, .ref p1), (1, .int p2), (2, .int p3), (3, .int p4), (4, .int p5), (5, .ref p6)]) hx hb dL_filled_17 hl (by decide) rfl (fun ls hl => ?_)
      refine lv_iconst (v := 1) hx hb dL_filled_19 (by decide) ?_
      exact vx_ret (xe_i hx hb hr hlocks hbase hh hK hX hS h (Nat.le_of_ble_eq_true rfl) (Nat.le_of_ble_eq_true rfl) dL_filled_20)
    · by_cases z1 : k9 = 1
      · subst z1
        have h := h.2.1 rfl
        refine vx_catch (name := xN 1) hown [(⟨0, 14, 17, 21⟩ : ExceptionTableEntry)] (⟨0, 14, 21, 13⟩ : ExceptionTableEntry) [(⟨0, 14, 25, 15⟩ : ExceptionTableEntry)] (htab.trans rfl) (fun z hz => by
          have hz : z ∈ [(⟨0, 14, 17, 21⟩ : ExceptionTableEntry)] := hz
          rcases List.mem_cons.mp hz with rfl | hz
          · exact Or.inr ⟨by decide, xN 0, q1, hX.2.2.2.1 1 0 (by decide)⟩
          · exact absurd hz List.not_mem_nil) rfl (by decide) q2 (va_Nw.use rfl (hX.2.2.1 1)) hc9 hv9 hcl9 ?_
        refine W.eq (g2 := F0 m 21 ls [.ref q9]) rfl ?_
        refine lv_astore (lv' := [(6, .ref q9), (0, .ref p1), (1, .int p2), (2, .int p3), (3, .int p4), (4, .int p5), (5, .ref p6)]) hx hb dL_filled_21 hl (by decide) rfl (fun ls hl => ?_)
        refine lv_iconst (v := 2) hx hb dL_filled_23 (by decide) ?_
        exact vx_ret (xe_i hx hb hr hlocks hbase hh hK hX hS h (Nat.le_of_ble_eq_true rfl) (Nat.le_of_ble_eq_true rfl) dL_filled_24)
      · rw [xN_2 z0 z1] at hcl9
        have h := h.2.2 z0 z1
        refine vx_catch (name := xN 2) hown [(⟨0, 14, 17, 21⟩ : ExceptionTableEntry), (⟨0, 14, 21, 13⟩ : ExceptionTableEntry)] (⟨0, 14, 25, 15⟩ : ExceptionTableEntry) [] (htab.trans rfl) (fun z hz => by
          have hz : z ∈ [(⟨0, 14, 17, 21⟩ : ExceptionTableEntry), (⟨0, 14, 21, 13⟩ : ExceptionTableEntry)] := hz
          rcases List.mem_cons.mp hz with rfl | hz
          · exact Or.inr ⟨by decide, xN 0, q1, hX.2.2.2.1 2 0 (by decide)⟩
          · rcases List.mem_cons.mp hz with rfl | hz
            · exact Or.inr ⟨by decide, xN 1, q2, hX.2.2.2.1 2 1 (by decide)⟩
            · exact absurd hz List.not_mem_nil) rfl (by decide) q3 (va_Nw.use rfl (hX.2.2.1 2)) hc9 hv9 hcl9 ?_
        refine W.eq (g2 := F0 m 25 ls [.ref q9]) rfl ?_
        refine lv_astore (lv' := [(6, .ref q9), (0, .ref p1), (1, .int p2), (2, .int p3), (3, .int p4), (4, .int p5), (5, .ref p6)]) hx hb dL_filled_25 hl (by decide) rfl (fun ls hl => ?_)
        refine lv_iconst (v := 3) hx hb dL_filled_27 (by decide) ?_
        exact vx_ret (xe_i hx hb hr hlocks hbase hh hK hX hS h (Nat.le_of_ble_eq_true rfl) (Nat.le_of_ble_eq_true rfl) dL_filled_28)
  refine lv_i2l hx hb dL_filled_12 rfl ?_
  obtain ⟨g4, h⟩ := h
  obtain ⟨g5, h⟩ := h
  refine xr_last hx hb hK hh g4 hS g5 dL_filled_13 (fun H locs hh hS => ?_)
  obtain ⟨m6, em6⟩ : ∃ z : MM, z = sAJ m3 p6 (va_up (mAJ m3 p6) (0 : Int32).toNatClampNeg r2.toInt64) := ⟨_, rfl⟩
  rw [← em6] at hh
  replace h := h m6 em6
  refine lv_goto (tgt := 29) hx hb dL_filled_14 (by decide) ?_
  refine lv_iconst (v := 0) hx hb dL_filled_29 (by decide) ?_
  exact vx_ret (xe_i hx hb hr hlocks hbase hh hK hX hS h (Nat.le_of_ble_eq_true rfl) (Nat.le_of_ble_eq_true rfl) dL_filled_30)

set_option maxHeartbeats 4000000 in
set_option maxRecDepth 100000 in
theorem mt_L_first (l : Launch) (hl9 : l.stackTraces = false) (G : GG) (base : Nat) {p1 : Nat} {p2 : Int32} {p3 : Int32} {p4 : Int32} {p5 : Nat} {m0 : MM} {Q : Int32 → MM → Prop} (h : wp_L_first p1 p2 p3 p4 p5 m0 Q) : vx_Met l yL_first wsL_first ({ frames := 11, cells := 4, slots := 24, locals := 212 }) (va_Pc [.ref p1, .int p2, .int p3, .int p4, .ref p5] (SP G base m0)) (va_Qi Q (HB G base) (xA base)) (xX G base (fun _ _ => False)) 4 24 (xA base) := by
  refine vx_ofWH (cc := cL_first) (maxL := 6) (ret := (some .int)) (hh := [(0, 12, 15, 21), (0, 12, 19, 13), (0, 12, 23, 15)]) (by decide) rfl ?_
  intro p e s m args below meth c s₁ B hml hv
  obtain ⟨rfl, hbase, hh, hK, hX⟩ := hv
  have C0 : BC p s m _ meth c G base RL cL_first 6 (some .int) wsL_first := ⟨B.exec, B.bytes, B.returns, hml, findClass_of_methodNamed B.named, atoms_spec (ws := wsL_first) B.pre, B.notSynchronized, hK, hbase, hX⟩
  obtain ⟨hx, hb, hr, -, hown, hts, hlocks, -, -, -⟩ := id C0
  have hS : va_S (xA base) s.heap s.heap [] := va_S.rf
  have hl := lv_entry ([.ref p1, .int p2, .int p3, .int p4, .ref p5]) (n := 6) (Nat.le_of_ble_eq_true rfl)
  rw [lg_entry_eq]
  generalize (lg_sl ([.ref p1, .int p2, .int p3, .int p4, .ref p5]) ++ List.replicate (6 - (lg_sl ([.ref p1, .int p2, .int p3, .int p4, .ref p5])).length) Slot.unset).toArray = ls at hl ⊢
  have hl : lv_has ls 6 [(0, .ref p1), (1, .int p2), (2, .int p3), (3, .int p4), (4, .ref p5)] := hl
  have htab : c.exceptionTable.toList = tableOf [(0, 12, 15, 21), (0, 12, 19, 13), (0, 12, 23, 15)] := vx_table (x := yL_law) B (hts _ List.mem_cons_self)
  unfold wp_L_first at h
  have q1 : (Cond.classLink RL 21 "java/lang/IndexOutOfBoundsException").before _ s = true := hts _ (List.mem_cons_of_mem _ (List.mem_append_left _ (List.mem_append_left _ (List.mem_append_left _ (List.mem_append_left _ (List.mem_append_left _ (List.mem_append_left _ (List.mem_append_left _ (List.mem_append_left _ (List.mem_of_getElem? (i := 0) rfl))))))))))
  have q2 : (Cond.classLink RL 13 "java/lang/IllegalArgumentException").before _ s = true := hts _ (List.mem_cons_of_mem _ (List.mem_append_left _ (List.mem_append_left _ (List.mem_append_left _ (List.mem_append_left _ (List.mem_append_left _ (List.mem_append_left _ (List.mem_append_left _ (List.mem_append_left _ (List.mem_of_getElem? (i := 1) rfl))))))))))
  have q3 : (Cond.classLink RL 15 "java/lang/IllegalStateException").before _ s = true := hts _ (List.mem_cons_of_mem _ (List.mem_append_left _ (List.mem_append_left _ (List.mem_append_left _ (List.mem_append_left _ (List.mem_append_left _ (List.mem_append_left _ (List.mem_append_left _ (List.mem_append_left _ (List.mem_of_getElem? (i := 2) rfl))))))))))
  refine lv_aload hx hb dL_first_0 (lv_at hl 4 rfl) ?_
  refine lv_iconst (v := 0) hx hb dL_first_2 (by decide) ?_
  refine lv_aload_n hx hb dL_first_3 rfl (lv_at hl 0 rfl) ?_
  refine lv_iload_n hx hb dL_first_4 rfl (lv_at hl 1 rfl) ?_
  refine lv_iload_n hx hb dL_first_5 rfl (lv_at hl 2 rfl) ?_
  refine lv_iload_n hx hb dL_first_6 rfl (lv_at hl 3 rfl) ?_
  obtain ⟨g1, h⟩ := h
  refine xt_i (vx_runV (As := [.int p2, .int p3, .int p4]) (rest := [.int (0 : Int32), .ref p5]) ⟨hx, hb, hml, hown, hts⟩ (mt_X5_first l hl9 G base h) (cwV 3 hts gL_first_X5_first rfl rfl rfl (by decide +kernel) ⟨Nat.le_of_ble_eq_true rfl, Nat.le_of_ble_eq_true rfl⟩) (xp_V hbase hh hK hX hS (ci := 5) g1 (by decide) rfl) rfl rfl hl.1 rfl (lv_room (Nat.le_of_ble_eq_true rfl)) dL_first_7 ⟨Nat.le_of_ble_eq_true rfl, Nat.le_of_ble_eq_true rfl⟩) hS (fun k9 m9 H locs q9 ce h hh hS hc9 hv9 hcl9 => ?_) (fun r2 m3 H locs h hh hS => ?_)
  · by_cases z0 : k9 = 0
    · subst z0
      have h := h.1 rfl
      refine vx_catch (name := xN 0) hown [] (⟨0, 12, 15, 21⟩ : ExceptionTableEntry) [(⟨0, 12, 19, 13⟩ : ExceptionTableEntry), (⟨0, 12, 23, 15⟩ : ExceptionTableEntry)] (htab.trans rfl) (fun z hz => absurd hz List.not_mem_nil) rfl (by decide) q1 (va_Nw.use rfl (hX.2.2.1 0)) hc9 hv9 hcl9 ?_
      refine W.eq (g2 := F0 m 15 ls [.ref q9]) rfl ?_
      refine lv_astore (lv' := [(5, .ref q9), (0, .ref p1), (1, .int p2), (2, .int p3), (3, .int p4), (4, .ref p5)]) hx hb dL_first_15 hl (by decide) rfl (fun ls hl => ?_)
      refine lv_iconst (v := 1) hx hb dL_first_17 (by decide) ?_
      exact vx_ret (xe_i hx hb hr hlocks hbase hh hK hX hS h (Nat.le_of_ble_eq_true rfl) (Nat.le_of_ble_eq_true rfl) dL_first_18)
    · by_cases z1 : k9 = 1
      · subst z1
        have h := h.2.1 rfl
        refine vx_catch (name := xN 1) hown [(⟨0, 12, 15, 21⟩ : ExceptionTableEntry)] (⟨0, 12, 19, 13⟩ : ExceptionTableEntry) [(⟨0, 12, 23, 15⟩ : ExceptionTableEntry)] (htab.trans rfl) (fun z hz => by
          have hz : z ∈ [(⟨0, 12, 15, 21⟩ : ExceptionTableEntry)] := hz
          rcases List.mem_cons.mp hz with rfl | hz
          · exact Or.inr ⟨by decide, xN 0, q1, hX.2.2.2.1 1 0 (by decide)⟩
          · exact absurd hz List.not_mem_nil) rfl (by decide) q2 (va_Nw.use rfl (hX.2.2.1 1)) hc9 hv9 hcl9 ?_
        refine W.eq (g2 := F0 m 19 ls [.ref q9]) rfl ?_
        refine lv_astore (lv' := [(5, .ref q9), (0, .ref p1), (1, .int p2), (2, .int p3), (3, .int p4), (4, .ref p5)]) hx hb dL_first_19 hl (by decide) rfl (fun ls hl => ?_)
        refine lv_iconst (v := 2) hx hb dL_first_21 (by decide) ?_
        exact vx_ret (xe_i hx hb hr hlocks hbase hh hK hX hS h (Nat.le_of_ble_eq_true rfl) (Nat.le_of_ble_eq_true rfl) dL_first_22)
      · rw [xN_2 z0 z1] at hcl9
        have h := h.2.2 z0 z1
        refine vx_catch (name := xN 2) hown [(⟨0, 12, 15, 21⟩ : ExceptionTableEntry), (⟨0, 12, 19, 13⟩ : ExceptionTableEntry)] (⟨0, 12, 23, 15⟩ : ExceptionTableEntry) [] (htab.trans rfl) (fun z hz => by
          have hz : z ∈ [(⟨0, 12, 15, 21⟩ : ExceptionTableEntry), (⟨0, 12, 19, 13⟩ : ExceptionTableEntry)] := hz
          rcases List.mem_cons.mp hz with rfl | hz
          · exact Or.inr ⟨by decide, xN 0, q1, hX.2.2.2.1 2 0 (by decide)⟩
          · rcases List.mem_cons.mp hz with rfl | hz
            · exact Or.inr ⟨by decide, xN 1, q2, hX.2.2.2.1 2 1 (by decide)⟩
            · exact absurd hz List.not_mem_nil) rfl (by decide) q3 (va_Nw.use rfl (hX.2.2.1 2)) hc9 hv9 hcl9 ?_
        refine W.eq (g2 := F0 m 23 ls [.ref q9]) rfl ?_
        refine lv_astore (lv' := [(5, .ref q9), (0, .ref p1), (1, .int p2), (2, .int p3), (3, .int p4), (4, .ref p5)]) hx hb dL_first_23 hl (by decide) rfl (fun ls hl => ?_)
        refine lv_iconst (v := 3) hx hb dL_first_25 (by decide) ?_
        exact vx_ret (xe_i hx hb hr hlocks hbase hh hK hX hS h (Nat.le_of_ble_eq_true rfl) (Nat.le_of_ble_eq_true rfl) dL_first_26)
  refine lv_i2l hx hb dL_first_10 rfl ?_
  obtain ⟨g4, h⟩ := h
  obtain ⟨g5, h⟩ := h
  refine xr_last hx hb hK hh g4 hS g5 dL_first_11 (fun H locs hh hS => ?_)
  obtain ⟨m6, em6⟩ : ∃ z : MM, z = sAJ m3 p5 (va_up (mAJ m3 p5) (0 : Int32).toNatClampNeg r2.toInt64) := ⟨_, rfl⟩
  rw [← em6] at hh
  replace h := h m6 em6
  refine lv_goto (tgt := 27) hx hb dL_first_12 (by decide) ?_
  refine lv_iconst (v := 0) hx hb dL_first_27 (by decide) ?_
  exact vx_ret (xe_i hx hb hr hlocks hbase hh hK hX hS h (Nat.le_of_ble_eq_true rfl) (Nat.le_of_ble_eq_true rfl) dL_first_28)

set_option maxHeartbeats 4000000 in
set_option maxRecDepth 100000 in
theorem mt_L_gaps (l : Launch) (hl9 : l.stackTraces = false) (G : GG) (base : Nat) {p1 : Nat} {p2 : Int32} {p3 : Int32} {p4 : Int32} {p5 : Int32} {p6 : Nat} {m0 : MM} {Q : Int32 → MM → Prop} (h : wp_L_gaps p1 p2 p3 p4 p5 p6 m0 Q) : vx_Met l yL_gaps wsL_gaps ({ frames := 9, cells := 4, slots := 24, locals := 169 }) (va_Pc [.ref p1, .int p2, .int p3, .int p4, .int p5, .ref p6] (SP G base m0)) (va_Qi Q (HB G base) (xA base)) (xX G base (fun _ _ => False)) 4 24 (xA base) := by
  refine vx_ofWH (cc := cL_gaps) (maxL := 7) (ret := (some .int)) (hh := [(0, 14, 17, 21), (0, 14, 21, 13)]) (by decide) rfl ?_
  intro p e s m args below meth c s₁ B hml hv
  obtain ⟨rfl, hbase, hh, hK, hX⟩ := hv
  have C0 : BC p s m _ meth c G base RL cL_gaps 7 (some .int) wsL_gaps := ⟨B.exec, B.bytes, B.returns, hml, findClass_of_methodNamed B.named, atoms_spec (ws := wsL_gaps) B.pre, B.notSynchronized, hK, hbase, hX⟩
  obtain ⟨hx, hb, hr, -, hown, hts, hlocks, -, -, -⟩ := id C0
  have hS : va_S (xA base) s.heap s.heap [] := va_S.rf
  have hl := lv_entry ([.ref p1, .int p2, .int p3, .int p4, .int p5, .ref p6]) (n := 7) (Nat.le_of_ble_eq_true rfl)
  rw [lg_entry_eq]
  generalize (lg_sl ([.ref p1, .int p2, .int p3, .int p4, .int p5, .ref p6]) ++ List.replicate (7 - (lg_sl ([.ref p1, .int p2, .int p3, .int p4, .int p5, .ref p6])).length) Slot.unset).toArray = ls at hl ⊢
  have hl : lv_has ls 7 [(0, .ref p1), (1, .int p2), (2, .int p3), (3, .int p4), (4, .int p5), (5, .ref p6)] := hl
  have htab : c.exceptionTable.toList = tableOf [(0, 14, 17, 21), (0, 14, 21, 13)] := vx_table (x := yL_law) B (hts _ List.mem_cons_self)
  unfold wp_L_gaps at h
  have q1 : (Cond.classLink RL 21 "java/lang/IndexOutOfBoundsException").before _ s = true := hts _ (List.mem_cons_of_mem _ (List.mem_append_left _ (List.mem_append_left _ (List.mem_append_left _ (List.mem_append_left _ (List.mem_append_left _ (List.mem_append_left _ (List.mem_append_left _ (List.mem_of_getElem? (i := 0) rfl)))))))))
  have q2 : (Cond.classLink RL 13 "java/lang/IllegalArgumentException").before _ s = true := hts _ (List.mem_cons_of_mem _ (List.mem_append_left _ (List.mem_append_left _ (List.mem_append_left _ (List.mem_append_left _ (List.mem_append_left _ (List.mem_append_left _ (List.mem_append_left _ (List.mem_of_getElem? (i := 1) rfl)))))))))
  refine lv_aload hx hb dL_gaps_0 (lv_at hl 5 rfl) ?_
  refine lv_iconst (v := 0) hx hb dL_gaps_2 (by decide) ?_
  refine lv_aload_n hx hb dL_gaps_3 rfl (lv_at hl 0 rfl) ?_
  refine lv_iload_n hx hb dL_gaps_4 rfl (lv_at hl 1 rfl) ?_
  refine lv_iload_n hx hb dL_gaps_5 rfl (lv_at hl 2 rfl) ?_
  refine lv_iload_n hx hb dL_gaps_6 rfl (lv_at hl 3 rfl) ?_
  refine lv_iload hx hb dL_gaps_7 (lv_at hl 4 rfl) ?_
  obtain ⟨g1, h⟩ := h
  refine xt_i (vx_runV (As := [.int p2, .int p3, .int p4, .int p5]) (rest := [.int (0 : Int32), .ref p6]) ⟨hx, hb, hml, hown, hts⟩ (mt_X5_gaps l hl9 G base h) (cwV 4 hts gL_gaps_X5_gaps rfl rfl rfl (by decide +kernel) ⟨Nat.le_of_ble_eq_true rfl, Nat.le_of_ble_eq_true rfl⟩) (xp_V hbase hh hK hX hS (ci := 5) g1 (by decide) rfl) rfl rfl hl.1 rfl (lv_room (Nat.le_of_ble_eq_true rfl)) dL_gaps_9 ⟨Nat.le_of_ble_eq_true rfl, Nat.le_of_ble_eq_true rfl⟩) hS (fun k9 m9 H locs q9 ce h hh hS hc9 hv9 hcl9 => ?_) (fun r2 m3 H locs h hh hS => ?_)
  · by_cases z0 : k9 = 0
    · subst z0
      have h := h.1 rfl
      refine vx_catch (name := xN 0) hown [] (⟨0, 14, 17, 21⟩ : ExceptionTableEntry) [(⟨0, 14, 21, 13⟩ : ExceptionTableEntry)] (htab.trans rfl) (fun z hz => absurd hz List.not_mem_nil) rfl (by decide) q1 (va_Nw.use rfl (hX.2.2.1 0)) hc9 hv9 hcl9 ?_
      refine W.eq (g2 := F0 m 17 ls [.ref q9]) rfl ?_
      refine lv_astore (lv' := [(6, .ref q9), (0, .ref p1), (1, .int p2), (2, .int p3), (3, .int p4), (4, .int p5), (5, .ref p6)]) hx hb dL_gaps_17 hl (by decide) rfl (fun ls hl => ?_)
      refine lv_iconst (v := 1) hx hb dL_gaps_19 (by decide) ?_
      exact vx_ret (xe_i hx hb hr hlocks hbase hh hK hX hS h (Nat.le_of_ble_eq_true rfl) (Nat.le_of_ble_eq_true rfl) dL_gaps_20)
    · by_cases z1 : k9 = 1
      · subst z1
        have h := h.2.1 rfl
        refine vx_catch (name := xN 1) hown [(⟨0, 14, 17, 21⟩ : ExceptionTableEntry)] (⟨0, 14, 21, 13⟩ : ExceptionTableEntry) [] (htab.trans rfl) (fun z hz => by
          have hz : z ∈ [(⟨0, 14, 17, 21⟩ : ExceptionTableEntry)] := hz
          rcases List.mem_cons.mp hz with rfl | hz
          · exact Or.inr ⟨by decide, xN 0, q1, hX.2.2.2.1 1 0 (by decide)⟩
          · exact absurd hz List.not_mem_nil) rfl (by decide) q2 (va_Nw.use rfl (hX.2.2.1 1)) hc9 hv9 hcl9 ?_
        refine W.eq (g2 := F0 m 21 ls [.ref q9]) rfl ?_
        refine lv_astore (lv' := [(6, .ref q9), (0, .ref p1), (1, .int p2), (2, .int p3), (3, .int p4), (4, .int p5), (5, .ref p6)]) hx hb dL_gaps_21 hl (by decide) rfl (fun ls hl => ?_)
        refine lv_iconst (v := 2) hx hb dL_gaps_23 (by decide) ?_
        exact vx_ret (xe_i hx hb hr hlocks hbase hh hK hX hS h (Nat.le_of_ble_eq_true rfl) (Nat.le_of_ble_eq_true rfl) dL_gaps_24)
      · rw [xN_2 z0 z1] at hcl9
        have h := h.2.2 z0 z1
        exact h.elim
  refine lv_i2l hx hb dL_gaps_12 rfl ?_
  obtain ⟨g4, h⟩ := h
  obtain ⟨g5, h⟩ := h
  refine xr_last hx hb hK hh g4 hS g5 dL_gaps_13 (fun H locs hh hS => ?_)
  obtain ⟨m6, em6⟩ : ∃ z : MM, z = sAJ m3 p6 (va_up (mAJ m3 p6) (0 : Int32).toNatClampNeg r2.toInt64) := ⟨_, rfl⟩
  rw [← em6] at hh
  replace h := h m6 em6
  refine lv_goto (tgt := 25) hx hb dL_gaps_14 (by decide) ?_
  refine lv_iconst (v := 0) hx hb dL_gaps_25 (by decide) ?_
  exact vx_ret (xe_i hx hb hr hlocks hbase hh hK hX hS h (Nat.le_of_ble_eq_true rfl) (Nat.le_of_ble_eq_true rfl) dL_gaps_26)

set_option maxHeartbeats 4000000 in
set_option maxRecDepth 100000 in
theorem mt_L_greatest (l : Launch) (hl9 : l.stackTraces = false) (G : GG) (base : Nat) {p1 : Nat} {p2 : Int32} {p3 : Int32} {p4 : Int32} {p5 : Nat} {m0 : MM} {Q : Int32 → MM → Prop} (h : wp_L_greatest p1 p2 p3 p4 p5 m0 Q) : vx_Met l yL_greatest wsL_greatest ({ frames := 11, cells := 4, slots := 24, locals := 212 }) (va_Pc [.ref p1, .int p2, .int p3, .int p4, .ref p5] (SP G base m0)) (va_Qi Q (HB G base) (xA base)) (xX G base (fun _ _ => False)) 4 24 (xA base) := by
  refine vx_ofWH (cc := cL_greatest) (maxL := 6) (ret := (some .int)) (hh := [(0, 12, 15, 21), (0, 12, 19, 13), (0, 12, 23, 15)]) (by decide) rfl ?_
  intro p e s m args below meth c s₁ B hml hv
  obtain ⟨rfl, hbase, hh, hK, hX⟩ := hv
  have C0 : BC p s m _ meth c G base RL cL_greatest 6 (some .int) wsL_greatest := ⟨B.exec, B.bytes, B.returns, hml, findClass_of_methodNamed B.named, atoms_spec (ws := wsL_greatest) B.pre, B.notSynchronized, hK, hbase, hX⟩
  obtain ⟨hx, hb, hr, -, hown, hts, hlocks, -, -, -⟩ := id C0
  have hS : va_S (xA base) s.heap s.heap [] := va_S.rf
  have hl := lv_entry ([.ref p1, .int p2, .int p3, .int p4, .ref p5]) (n := 6) (Nat.le_of_ble_eq_true rfl)
  rw [lg_entry_eq]
  generalize (lg_sl ([.ref p1, .int p2, .int p3, .int p4, .ref p5]) ++ List.replicate (6 - (lg_sl ([.ref p1, .int p2, .int p3, .int p4, .ref p5])).length) Slot.unset).toArray = ls at hl ⊢
  have hl : lv_has ls 6 [(0, .ref p1), (1, .int p2), (2, .int p3), (3, .int p4), (4, .ref p5)] := hl
  have htab : c.exceptionTable.toList = tableOf [(0, 12, 15, 21), (0, 12, 19, 13), (0, 12, 23, 15)] := vx_table (x := yL_law) B (hts _ List.mem_cons_self)
  unfold wp_L_greatest at h
  have q1 : (Cond.classLink RL 21 "java/lang/IndexOutOfBoundsException").before _ s = true := hts _ (List.mem_cons_of_mem _ (List.mem_append_left _ (List.mem_append_left _ (List.mem_append_left _ (List.mem_append_left _ (List.mem_append_left _ (List.mem_append_left _ (List.mem_append_left _ (List.mem_append_left _ (List.mem_of_getElem? (i := 0) rfl))))))))))
  have q2 : (Cond.classLink RL 13 "java/lang/IllegalArgumentException").before _ s = true := hts _ (List.mem_cons_of_mem _ (List.mem_append_left _ (List.mem_append_left _ (List.mem_append_left _ (List.mem_append_left _ (List.mem_append_left _ (List.mem_append_left _ (List.mem_append_left _ (List.mem_append_left _ (List.mem_of_getElem? (i := 1) rfl))))))))))
  have q3 : (Cond.classLink RL 15 "java/lang/IllegalStateException").before _ s = true := hts _ (List.mem_cons_of_mem _ (List.mem_append_left _ (List.mem_append_left _ (List.mem_append_left _ (List.mem_append_left _ (List.mem_append_left _ (List.mem_append_left _ (List.mem_append_left _ (List.mem_append_left _ (List.mem_of_getElem? (i := 2) rfl))))))))))
  refine lv_aload hx hb dL_greatest_0 (lv_at hl 4 rfl) ?_
  refine lv_iconst (v := 0) hx hb dL_greatest_2 (by decide) ?_
  refine lv_aload_n hx hb dL_greatest_3 rfl (lv_at hl 0 rfl) ?_
  refine lv_iload_n hx hb dL_greatest_4 rfl (lv_at hl 1 rfl) ?_
  refine lv_iload_n hx hb dL_greatest_5 rfl (lv_at hl 2 rfl) ?_
  refine lv_iload_n hx hb dL_greatest_6 rfl (lv_at hl 3 rfl) ?_
  obtain ⟨g1, h⟩ := h
  refine xt_i (vx_runV (As := [.int p2, .int p3, .int p4]) (rest := [.int (0 : Int32), .ref p5]) ⟨hx, hb, hml, hown, hts⟩ (mt_X5_greatest l hl9 G base h) (cwV 3 hts gL_greatest_X5_greatest rfl rfl rfl (by decide +kernel) ⟨Nat.le_of_ble_eq_true rfl, Nat.le_of_ble_eq_true rfl⟩) (xp_V hbase hh hK hX hS (ci := 5) g1 (by decide) rfl) rfl rfl hl.1 rfl (lv_room (Nat.le_of_ble_eq_true rfl)) dL_greatest_7 ⟨Nat.le_of_ble_eq_true rfl, Nat.le_of_ble_eq_true rfl⟩) hS (fun k9 m9 H locs q9 ce h hh hS hc9 hv9 hcl9 => ?_) (fun r2 m3 H locs h hh hS => ?_)
  · by_cases z0 : k9 = 0
    · subst z0
      have h := h.1 rfl
      refine vx_catch (name := xN 0) hown [] (⟨0, 12, 15, 21⟩ : ExceptionTableEntry) [(⟨0, 12, 19, 13⟩ : ExceptionTableEntry), (⟨0, 12, 23, 15⟩ : ExceptionTableEntry)] (htab.trans rfl) (fun z hz => absurd hz List.not_mem_nil) rfl (by decide) q1 (va_Nw.use rfl (hX.2.2.1 0)) hc9 hv9 hcl9 ?_
      refine W.eq (g2 := F0 m 15 ls [.ref q9]) rfl ?_
      refine lv_astore (lv' := [(5, .ref q9), (0, .ref p1), (1, .int p2), (2, .int p3), (3, .int p4), (4, .ref p5)]) hx hb dL_greatest_15 hl (by decide) rfl (fun ls hl => ?_)
      refine lv_iconst (v := 1) hx hb dL_greatest_17 (by decide) ?_
      exact vx_ret (xe_i hx hb hr hlocks hbase hh hK hX hS h (Nat.le_of_ble_eq_true rfl) (Nat.le_of_ble_eq_true rfl) dL_greatest_18)
    · by_cases z1 : k9 = 1
      · subst z1
        have h := h.2.1 rfl
        refine vx_catch (name := xN 1) hown [(⟨0, 12, 15, 21⟩ : ExceptionTableEntry)] (⟨0, 12, 19, 13⟩ : ExceptionTableEntry) [(⟨0, 12, 23, 15⟩ : ExceptionTableEntry)] (htab.trans rfl) (fun z hz => by
          have hz : z ∈ [(⟨0, 12, 15, 21⟩ : ExceptionTableEntry)] := hz
          rcases List.mem_cons.mp hz with rfl | hz
          · exact Or.inr ⟨by decide, xN 0, q1, hX.2.2.2.1 1 0 (by decide)⟩
          · exact absurd hz List.not_mem_nil) rfl (by decide) q2 (va_Nw.use rfl (hX.2.2.1 1)) hc9 hv9 hcl9 ?_
        refine W.eq (g2 := F0 m 19 ls [.ref q9]) rfl ?_
        refine lv_astore (lv' := [(5, .ref q9), (0, .ref p1), (1, .int p2), (2, .int p3), (3, .int p4), (4, .ref p5)]) hx hb dL_greatest_19 hl (by decide) rfl (fun ls hl => ?_)
        refine lv_iconst (v := 2) hx hb dL_greatest_21 (by decide) ?_
        exact vx_ret (xe_i hx hb hr hlocks hbase hh hK hX hS h (Nat.le_of_ble_eq_true rfl) (Nat.le_of_ble_eq_true rfl) dL_greatest_22)
      · rw [xN_2 z0 z1] at hcl9
        have h := h.2.2 z0 z1
        refine vx_catch (name := xN 2) hown [(⟨0, 12, 15, 21⟩ : ExceptionTableEntry), (⟨0, 12, 19, 13⟩ : ExceptionTableEntry)] (⟨0, 12, 23, 15⟩ : ExceptionTableEntry) [] (htab.trans rfl) (fun z hz => by
          have hz : z ∈ [(⟨0, 12, 15, 21⟩ : ExceptionTableEntry), (⟨0, 12, 19, 13⟩ : ExceptionTableEntry)] := hz
          rcases List.mem_cons.mp hz with rfl | hz
          · exact Or.inr ⟨by decide, xN 0, q1, hX.2.2.2.1 2 0 (by decide)⟩
          · rcases List.mem_cons.mp hz with rfl | hz
            · exact Or.inr ⟨by decide, xN 1, q2, hX.2.2.2.1 2 1 (by decide)⟩
            · exact absurd hz List.not_mem_nil) rfl (by decide) q3 (va_Nw.use rfl (hX.2.2.1 2)) hc9 hv9 hcl9 ?_
        refine W.eq (g2 := F0 m 23 ls [.ref q9]) rfl ?_
        refine lv_astore (lv' := [(5, .ref q9), (0, .ref p1), (1, .int p2), (2, .int p3), (3, .int p4), (4, .ref p5)]) hx hb dL_greatest_23 hl (by decide) rfl (fun ls hl => ?_)
        refine lv_iconst (v := 3) hx hb dL_greatest_25 (by decide) ?_
        exact vx_ret (xe_i hx hb hr hlocks hbase hh hK hX hS h (Nat.le_of_ble_eq_true rfl) (Nat.le_of_ble_eq_true rfl) dL_greatest_26)
  refine lv_i2l hx hb dL_greatest_10 rfl ?_
  obtain ⟨g4, h⟩ := h
  obtain ⟨g5, h⟩ := h
  refine xr_last hx hb hK hh g4 hS g5 dL_greatest_11 (fun H locs hh hS => ?_)
  obtain ⟨m6, em6⟩ : ∃ z : MM, z = sAJ m3 p5 (va_up (mAJ m3 p5) (0 : Int32).toNatClampNeg r2.toInt64) := ⟨_, rfl⟩
  rw [← em6] at hh
  replace h := h m6 em6
  refine lv_goto (tgt := 27) hx hb dL_greatest_12 (by decide) ?_
  refine lv_iconst (v := 0) hx hb dL_greatest_27 (by decide) ?_
  exact vx_ret (xe_i hx hb hr hlocks hbase hh hK hX hS h (Nat.le_of_ble_eq_true rfl) (Nat.le_of_ble_eq_true rfl) dL_greatest_28)

set_option maxHeartbeats 4000000 in
set_option maxRecDepth 100000 in
theorem mt_L_hasRollup (l : Launch) (hl9 : l.stackTraces = false) (G : GG) (base : Nat) {p1 : Nat} {p2 : Int32} {p3 : Int32} {p4 : Int32} {p5 : Nat} {m0 : MM} {Q : Int32 → MM → Prop} (h : wp_L_hasRollup p1 p2 p3 p4 p5 m0 Q) : vx_Met l yL_hasRollup wsL_hasRollup ({ frames := 10, cells := 3, slots := 18, locals := 188 }) (va_Pc [.ref p1, .int p2, .int p3, .int p4, .ref p5] (SP G base m0)) (va_Qi Q (HB G base) (xA base)) (xX G base (fun _ _ => False)) 3 18 (xA base) := by
  refine vx_ofWH (cc := cL_hasRollup) (maxL := 6) (ret := (some .int)) (hh := [(0, 19, 22, 21), (0, 19, 26, 13)]) (by decide) rfl ?_
  intro p e s m args below meth c s₁ B hml hv
  obtain ⟨rfl, hbase, hh, hK, hX⟩ := hv
  have C0 : BC p s m _ meth c G base RL cL_hasRollup 6 (some .int) wsL_hasRollup := ⟨B.exec, B.bytes, B.returns, hml, findClass_of_methodNamed B.named, atoms_spec (ws := wsL_hasRollup) B.pre, B.notSynchronized, hK, hbase, hX⟩
  obtain ⟨hx, hb, hr, -, hown, hts, hlocks, -, -, -⟩ := id C0
  have hS : va_S (xA base) s.heap s.heap [] := va_S.rf
  have hl := lv_entry ([.ref p1, .int p2, .int p3, .int p4, .ref p5]) (n := 6) (Nat.le_of_ble_eq_true rfl)
  rw [lg_entry_eq]
  generalize (lg_sl ([.ref p1, .int p2, .int p3, .int p4, .ref p5]) ++ List.replicate (6 - (lg_sl ([.ref p1, .int p2, .int p3, .int p4, .ref p5])).length) Slot.unset).toArray = ls at hl ⊢
  have hl : lv_has ls 6 [(0, .ref p1), (1, .int p2), (2, .int p3), (3, .int p4), (4, .ref p5)] := hl
  have htab : c.exceptionTable.toList = tableOf [(0, 19, 22, 21), (0, 19, 26, 13)] := vx_table (x := yL_law) B (hts _ List.mem_cons_self)
  unfold wp_L_hasRollup at h
  have q1 : (Cond.classLink RL 21 "java/lang/IndexOutOfBoundsException").before _ s = true := hts _ (List.mem_cons_of_mem _ (List.mem_append_left _ (List.mem_append_left _ (List.mem_append_left _ (List.mem_append_left _ (List.mem_append_left _ (List.mem_append_left _ (List.mem_append_left _ (List.mem_of_getElem? (i := 0) rfl)))))))))
  have q2 : (Cond.classLink RL 13 "java/lang/IllegalArgumentException").before _ s = true := hts _ (List.mem_cons_of_mem _ (List.mem_append_left _ (List.mem_append_left _ (List.mem_append_left _ (List.mem_append_left _ (List.mem_append_left _ (List.mem_append_left _ (List.mem_append_left _ (List.mem_of_getElem? (i := 1) rfl)))))))))
  refine lv_aload hx hb dL_hasRollup_0 (lv_at hl 4 rfl) ?_
  refine lv_iconst (v := 0) hx hb dL_hasRollup_2 (by decide) ?_
  refine lv_aload_n hx hb dL_hasRollup_3 rfl (lv_at hl 0 rfl) ?_
  refine lv_iload_n hx hb dL_hasRollup_4 rfl (lv_at hl 1 rfl) ?_
  refine lv_iload_n hx hb dL_hasRollup_5 rfl (lv_at hl 2 rfl) ?_
  refine lv_iload_n hx hb dL_hasRollup_6 rfl (lv_at hl 3 rfl) ?_
  obtain ⟨g1, h⟩ := h
  refine xt_i (vx_runV (As := [.int p2, .int p3, .int p4]) (rest := [.int (0 : Int32), .ref p5]) ⟨hx, hb, hml, hown, hts⟩ (mt_X5_hasRollup l hl9 G base h) (cwV 3 hts gL_hasRollup_X5_hasRollup rfl rfl rfl (by decide +kernel) ⟨Nat.le_of_ble_eq_true rfl, Nat.le_of_ble_eq_true rfl⟩) (xp_V hbase hh hK hX hS (ci := 5) g1 (by decide) rfl) rfl rfl hl.1 rfl (lv_room (Nat.le_of_ble_eq_true rfl)) dL_hasRollup_7 ⟨Nat.le_of_ble_eq_true rfl, Nat.le_of_ble_eq_true rfl⟩) hS (fun k9 m9 H locs q9 ce h hh hS hc9 hv9 hcl9 => ?_) (fun r2 m3 H locs h hh hS => ?_)
  · by_cases z0 : k9 = 0
    · subst z0
      have h := h.1 rfl
      refine vx_catch (name := xN 0) hown [] (⟨0, 19, 22, 21⟩ : ExceptionTableEntry) [(⟨0, 19, 26, 13⟩ : ExceptionTableEntry)] (htab.trans rfl) (fun z hz => absurd hz List.not_mem_nil) rfl (by decide) q1 (va_Nw.use rfl (hX.2.2.1 0)) hc9 hv9 hcl9 ?_
      refine W.eq (g2 := F0 m 22 ls [.ref q9]) rfl ?_
      refine lv_astore (lv' := [(5, .ref q9), (0, .ref p1), (1, .int p2), (2, .int p3), (3, .int p4), (4, .ref p5)]) hx hb dL_hasRollup_22 hl (by decide) rfl (fun ls hl => ?_)
      refine lv_iconst (v := 1) hx hb dL_hasRollup_24 (by decide) ?_
      exact vx_ret (xe_i hx hb hr hlocks hbase hh hK hX hS h (Nat.le_of_ble_eq_true rfl) (Nat.le_of_ble_eq_true rfl) dL_hasRollup_25)
    · by_cases z1 : k9 = 1
      · subst z1
        have h := h.2.1 rfl
        refine vx_catch (name := xN 1) hown [(⟨0, 19, 22, 21⟩ : ExceptionTableEntry)] (⟨0, 19, 26, 13⟩ : ExceptionTableEntry) [] (htab.trans rfl) (fun z hz => by
          have hz : z ∈ [(⟨0, 19, 22, 21⟩ : ExceptionTableEntry)] := hz
          rcases List.mem_cons.mp hz with rfl | hz
          · exact Or.inr ⟨by decide, xN 0, q1, hX.2.2.2.1 1 0 (by decide)⟩
          · exact absurd hz List.not_mem_nil) rfl (by decide) q2 (va_Nw.use rfl (hX.2.2.1 1)) hc9 hv9 hcl9 ?_
        refine W.eq (g2 := F0 m 26 ls [.ref q9]) rfl ?_
        refine lv_astore (lv' := [(5, .ref q9), (0, .ref p1), (1, .int p2), (2, .int p3), (3, .int p4), (4, .ref p5)]) hx hb dL_hasRollup_26 hl (by decide) rfl (fun ls hl => ?_)
        refine lv_iconst (v := 2) hx hb dL_hasRollup_28 (by decide) ?_
        exact vx_ret (xe_i hx hb hr hlocks hbase hh hK hX hS h (Nat.le_of_ble_eq_true rfl) (Nat.le_of_ble_eq_true rfl) dL_hasRollup_29)
      · rw [xN_2 z0 z1] at hcl9
        have h := h.2.2 z0 z1
        exact h.elim
  refine lv_if_eq (tgt := 17) hx hb dL_hasRollup_10 (by decide) (fun c4 => ?_) (fun c4 => ?_)
  · replace h := h.1 c4
    refine lv_lconst (v := 0) hx hb dL_hasRollup_17 (by decide) ?_
    obtain ⟨g5, h⟩ := h
    obtain ⟨g6, h⟩ := h
    refine xr_last hx hb hK hh g5 hS g6 dL_hasRollup_18 (fun H locs hh hS => ?_)
    obtain ⟨m7, em7⟩ : ∃ z : MM, z = sAJ m3 p5 (va_up (mAJ m3 p5) (0 : Int32).toNatClampNeg (0 : Int64)) := ⟨_, rfl⟩
    rw [← em7] at hh
    replace h := h m7 em7
    refine lv_goto (tgt := 30) hx hb dL_hasRollup_19 (by decide) ?_
    refine lv_iconst (v := 0) hx hb dL_hasRollup_30 (by decide) ?_
    exact vx_ret (xe_i hx hb hr hlocks hbase hh hK hX hS h (Nat.le_of_ble_eq_true rfl) (Nat.le_of_ble_eq_true rfl) dL_hasRollup_31)
  · replace h := h.2 c4
    refine lv_lconst (v := 1) hx hb dL_hasRollup_13 (by decide) ?_
    refine lv_goto (tgt := 18) hx hb dL_hasRollup_14 (by decide) ?_
    obtain ⟨g8, h⟩ := h
    obtain ⟨g9, h⟩ := h
    refine xr_last hx hb hK hh g8 hS g9 dL_hasRollup_18 (fun H locs hh hS => ?_)
    obtain ⟨m10, em10⟩ : ∃ z : MM, z = sAJ m3 p5 (va_up (mAJ m3 p5) (0 : Int32).toNatClampNeg (1 : Int64)) := ⟨_, rfl⟩
    rw [← em10] at hh
    replace h := h m10 em10
    refine lv_goto (tgt := 30) hx hb dL_hasRollup_19 (by decide) ?_
    refine lv_iconst (v := 0) hx hb dL_hasRollup_30 (by decide) ?_
    exact vx_ret (xe_i hx hb hr hlocks hbase hh hK hX hS h (Nat.le_of_ble_eq_true rfl) (Nat.le_of_ble_eq_true rfl) dL_hasRollup_31)

set_option maxHeartbeats 4000000 in
set_option maxRecDepth 100000 in
theorem mt_L_horizon (l : Launch) (hl9 : l.stackTraces = false) (G : GG) (base : Nat) {p1 : Nat} {p2 : Int32} {p3 : Nat} {m0 : MM} {Q : Int32 → MM → Prop} (h : wp_L_horizon p1 p2 p3 m0 Q) : vx_Met l yL_horizon wsL_horizon ({ frames := 8, cells := 1, slots := 6, locals := 139 }) (va_Pc [.ref p1, .int p2, .ref p3] (SP G base m0)) (va_Qi Q (HB G base) (xA base)) (xX G base (fun _ _ => False)) 1 6 (xA base) := by
  refine vx_ofWH (cc := cL_horizon) (maxL := 4) (ret := (some .int)) (hh := [(0, 9, 12, 13)]) (by decide) rfl ?_
  intro p e s m args below meth c s₁ B hml hv
  obtain ⟨rfl, hbase, hh, hK, hX⟩ := hv
  have C0 : BC p s m _ meth c G base RL cL_horizon 4 (some .int) wsL_horizon := ⟨B.exec, B.bytes, B.returns, hml, findClass_of_methodNamed B.named, atoms_spec (ws := wsL_horizon) B.pre, B.notSynchronized, hK, hbase, hX⟩
  obtain ⟨hx, hb, hr, -, hown, hts, hlocks, -, -, -⟩ := id C0
  have hS : va_S (xA base) s.heap s.heap [] := va_S.rf
  have hl := lv_entry ([.ref p1, .int p2, .ref p3]) (n := 4) (Nat.le_of_ble_eq_true rfl)
  rw [lg_entry_eq]
  generalize (lg_sl ([.ref p1, .int p2, .ref p3]) ++ List.replicate (4 - (lg_sl ([.ref p1, .int p2, .ref p3])).length) Slot.unset).toArray = ls at hl ⊢
  have hl : lv_has ls 4 [(0, .ref p1), (1, .int p2), (2, .ref p3)] := hl
  have htab : c.exceptionTable.toList = tableOf [(0, 9, 12, 13)] := vx_table (x := yL_law) B (hts _ List.mem_cons_self)
  unfold wp_L_horizon at h
  have q1 : (Cond.classLink RL 13 "java/lang/IllegalArgumentException").before _ s = true := hts _ (List.mem_cons_of_mem _ (List.mem_append_left _ (List.mem_append_left _ (List.mem_of_getElem? (i := 0) rfl))))
  refine lv_aload_n hx hb dL_horizon_0 rfl (lv_at hl 2 rfl) ?_
  refine lv_iconst (v := 0) hx hb dL_horizon_1 (by decide) ?_
  refine lv_aload_n hx hb dL_horizon_2 rfl (lv_at hl 0 rfl) ?_
  refine lv_iload_n hx hb dL_horizon_3 rfl (lv_at hl 1 rfl) ?_
  obtain ⟨g1, h⟩ := h
  refine xt_i (vx_runV (As := [.int p2]) (rest := [.int (0 : Int32), .ref p3]) ⟨hx, hb, hml, hown, hts⟩ (mt_X5_horizon l hl9 G base h) (cwV 1 hts gL_horizon_X5_horizon rfl rfl rfl (by decide +kernel) ⟨Nat.le_of_ble_eq_true rfl, Nat.le_of_ble_eq_true rfl⟩) (xp_V hbase hh hK hX hS (ci := 5) g1 (by decide) rfl) rfl rfl hl.1 rfl (lv_room (Nat.le_of_ble_eq_true rfl)) dL_horizon_4 ⟨Nat.le_of_ble_eq_true rfl, Nat.le_of_ble_eq_true rfl⟩) hS (fun k9 m9 H locs q9 ce h hh hS hc9 hv9 hcl9 => ?_) (fun r2 m3 H locs h hh hS => ?_)
  · by_cases z0 : k9 = 0
    · subst z0
      have h := h.1 rfl
      exact h.elim
    · by_cases z1 : k9 = 1
      · subst z1
        have h := h.2.1 rfl
        refine vx_catch (name := xN 1) hown [] (⟨0, 9, 12, 13⟩ : ExceptionTableEntry) [] (htab.trans rfl) (fun z hz => absurd hz List.not_mem_nil) rfl (by decide) q1 (va_Nw.use rfl (hX.2.2.1 1)) hc9 hv9 hcl9 ?_
        refine W.eq (g2 := F0 m 12 ls [.ref q9]) rfl ?_
        refine lv_astore_n (lv' := [(3, .ref q9), (0, .ref p1), (1, .int p2), (2, .ref p3)]) hx hb dL_horizon_12 rfl hl (by decide) rfl (fun ls hl => ?_)
        refine lv_iconst (v := 1) hx hb dL_horizon_13 (by decide) ?_
        exact vx_ret (xe_i hx hb hr hlocks hbase hh hK hX hS h (Nat.le_of_ble_eq_true rfl) (Nat.le_of_ble_eq_true rfl) dL_horizon_14)
      · rw [xN_2 z0 z1] at hcl9
        have h := h.2.2 z0 z1
        exact h.elim
  refine lv_i2l hx hb dL_horizon_7 rfl ?_
  obtain ⟨g4, h⟩ := h
  obtain ⟨g5, h⟩ := h
  refine xr_last hx hb hK hh g4 hS g5 dL_horizon_8 (fun H locs hh hS => ?_)
  obtain ⟨m6, em6⟩ : ∃ z : MM, z = sAJ m3 p3 (va_up (mAJ m3 p3) (0 : Int32).toNatClampNeg r2.toInt64) := ⟨_, rfl⟩
  rw [← em6] at hh
  replace h := h m6 em6
  refine lv_goto (tgt := 15) hx hb dL_horizon_9 (by decide) ?_
  refine lv_iconst (v := 0) hx hb dL_horizon_15 (by decide) ?_
  exact vx_ret (xe_i hx hb hr hlocks hbase hh hK hX hS h (Nat.le_of_ble_eq_true rfl) (Nat.le_of_ble_eq_true rfl) dL_horizon_16)

set_option maxHeartbeats 4000000 in
set_option maxRecDepth 100000 in
theorem mt_L_increase (l : Launch) (hl9 : l.stackTraces = false) (G : GG) (base : Nat) {p1 : Nat} {p2 : Int32} {p3 : Int32} {p4 : Int32} {p5 : Nat} {m0 : MM} {Q : Int32 → MM → Prop} (h : wp_L_increase p1 p2 p3 p4 p5 m0 Q) : vx_Met l yL_increase wsL_increase ({ frames := 9, cells := 3, slots := 18, locals := 209 }) (va_Pc [.ref p1, .int p2, .int p3, .int p4, .ref p5] (SP G base m0)) (va_Qi Q (HB G base) (xA base)) (xX G base (fun _ _ => False)) 3 18 (xA base) := by
  refine vx_ofWH (cc := cL_increase) (maxL := 6) (ret := (some .int)) (hh := [(0, 11, 14, 21), (0, 11, 18, 13), (0, 11, 22, 15)]) (by decide) rfl ?_
  intro p e s m args below meth c s₁ B hml hv
  obtain ⟨rfl, hbase, hh, hK, hX⟩ := hv
  have C0 : BC p s m _ meth c G base RL cL_increase 6 (some .int) wsL_increase := ⟨B.exec, B.bytes, B.returns, hml, findClass_of_methodNamed B.named, atoms_spec (ws := wsL_increase) B.pre, B.notSynchronized, hK, hbase, hX⟩
  obtain ⟨hx, hb, hr, -, hown, hts, hlocks, -, -, -⟩ := id C0
  have hS : va_S (xA base) s.heap s.heap [] := va_S.rf
  have hl := lv_entry ([.ref p1, .int p2, .int p3, .int p4, .ref p5]) (n := 6) (Nat.le_of_ble_eq_true rfl)
  rw [lg_entry_eq]
  generalize (lg_sl ([.ref p1, .int p2, .int p3, .int p4, .ref p5]) ++ List.replicate (6 - (lg_sl ([.ref p1, .int p2, .int p3, .int p4, .ref p5])).length) Slot.unset).toArray = ls at hl ⊢
  have hl : lv_has ls 6 [(0, .ref p1), (1, .int p2), (2, .int p3), (3, .int p4), (4, .ref p5)] := hl
  have htab : c.exceptionTable.toList = tableOf [(0, 11, 14, 21), (0, 11, 18, 13), (0, 11, 22, 15)] := vx_table (x := yL_law) B (hts _ List.mem_cons_self)
  unfold wp_L_increase at h
  have q1 : (Cond.classLink RL 21 "java/lang/IndexOutOfBoundsException").before _ s = true := hts _ (List.mem_cons_of_mem _ (List.mem_append_left _ (List.mem_append_left _ (List.mem_append_left _ (List.mem_append_left _ (List.mem_append_left _ (List.mem_append_left _ (List.mem_append_left _ (List.mem_append_left _ (List.mem_append_left _ (List.mem_of_getElem? (i := 0) rfl)))))))))))
  have q2 : (Cond.classLink RL 13 "java/lang/IllegalArgumentException").before _ s = true := hts _ (List.mem_cons_of_mem _ (List.mem_append_left _ (List.mem_append_left _ (List.mem_append_left _ (List.mem_append_left _ (List.mem_append_left _ (List.mem_append_left _ (List.mem_append_left _ (List.mem_append_left _ (List.mem_append_left _ (List.mem_of_getElem? (i := 1) rfl)))))))))))
  have q3 : (Cond.classLink RL 15 "java/lang/IllegalStateException").before _ s = true := hts _ (List.mem_cons_of_mem _ (List.mem_append_left _ (List.mem_append_left _ (List.mem_append_left _ (List.mem_append_left _ (List.mem_append_left _ (List.mem_append_left _ (List.mem_append_left _ (List.mem_append_left _ (List.mem_append_left _ (List.mem_of_getElem? (i := 2) rfl)))))))))))
  refine lv_aload hx hb dL_increase_0 (lv_at hl 4 rfl) ?_
  refine lv_iconst (v := 0) hx hb dL_increase_2 (by decide) ?_
  refine lv_aload_n hx hb dL_increase_3 rfl (lv_at hl 0 rfl) ?_
  refine lv_iload_n hx hb dL_increase_4 rfl (lv_at hl 1 rfl) ?_
  refine lv_iload_n hx hb dL_increase_5 rfl (lv_at hl 2 rfl) ?_
  refine lv_iload_n hx hb dL_increase_6 rfl (lv_at hl 3 rfl) ?_
  obtain ⟨g1, h⟩ := h
  refine xt_l (vx_runV (As := [.int p2, .int p3, .int p4]) (rest := [.int (0 : Int32), .ref p5]) ⟨hx, hb, hml, hown, hts⟩ (mt_X5_increase l hl9 G base h) (cwV 3 hts gL_increase_X5_increase rfl rfl rfl (by decide +kernel) ⟨Nat.le_of_ble_eq_true rfl, Nat.le_of_ble_eq_true rfl⟩) (xp_V hbase hh hK hX hS (ci := 5) g1 (by decide) rfl) rfl rfl hl.1 rfl (lv_room (Nat.le_of_ble_eq_true rfl)) dL_increase_7 ⟨Nat.le_of_ble_eq_true rfl, Nat.le_of_ble_eq_true rfl⟩) hS (fun k9 m9 H locs q9 ce h hh hS hc9 hv9 hcl9 => ?_) (fun r2 m3 H locs h hh hS => ?_)
  · by_cases z0 : k9 = 0
    · subst z0
      have h := h.1 rfl
      refine vx_catch (name := xN 0) hown [] (⟨0, 11, 14, 21⟩ : ExceptionTableEntry) [(⟨0, 11, 18, 13⟩ : ExceptionTableEntry), (⟨0, 11, 22, 15⟩ : ExceptionTableEntry)] (htab.trans rfl) (fun z hz => absurd hz List.not_mem_nil) rfl (by decide) q1 (va_Nw.use rfl (hX.2.2.1 0)) hc9 hv9 hcl9 ?_
      refine W.eq (g2 := F0 m 14 ls [.ref q9]) rfl ?_
      refine lv_astore (lv' := [(5, .ref q9), (0, .ref p1), (1, .int p2), (2, .int p3), (3, .int p4), (4, .ref p5)]) hx hb dL_increase_14 hl (by decide) rfl (fun ls hl => ?_)
      refine lv_iconst (v := 1) hx hb dL_increase_16 (by decide) ?_
      exact vx_ret (xe_i hx hb hr hlocks hbase hh hK hX hS h (Nat.le_of_ble_eq_true rfl) (Nat.le_of_ble_eq_true rfl) dL_increase_17)
    · by_cases z1 : k9 = 1
      · subst z1
        have h := h.2.1 rfl
        refine vx_catch (name := xN 1) hown [(⟨0, 11, 14, 21⟩ : ExceptionTableEntry)] (⟨0, 11, 18, 13⟩ : ExceptionTableEntry) [(⟨0, 11, 22, 15⟩ : ExceptionTableEntry)] (htab.trans rfl) (fun z hz => by
          have hz : z ∈ [(⟨0, 11, 14, 21⟩ : ExceptionTableEntry)] := hz
          rcases List.mem_cons.mp hz with rfl | hz
          · exact Or.inr ⟨by decide, xN 0, q1, hX.2.2.2.1 1 0 (by decide)⟩
          · exact absurd hz List.not_mem_nil) rfl (by decide) q2 (va_Nw.use rfl (hX.2.2.1 1)) hc9 hv9 hcl9 ?_
        refine W.eq (g2 := F0 m 18 ls [.ref q9]) rfl ?_
        refine lv_astore (lv' := [(5, .ref q9), (0, .ref p1), (1, .int p2), (2, .int p3), (3, .int p4), (4, .ref p5)]) hx hb dL_increase_18 hl (by decide) rfl (fun ls hl => ?_)
        refine lv_iconst (v := 2) hx hb dL_increase_20 (by decide) ?_
        exact vx_ret (xe_i hx hb hr hlocks hbase hh hK hX hS h (Nat.le_of_ble_eq_true rfl) (Nat.le_of_ble_eq_true rfl) dL_increase_21)
      · rw [xN_2 z0 z1] at hcl9
        have h := h.2.2 z0 z1
        refine vx_catch (name := xN 2) hown [(⟨0, 11, 14, 21⟩ : ExceptionTableEntry), (⟨0, 11, 18, 13⟩ : ExceptionTableEntry)] (⟨0, 11, 22, 15⟩ : ExceptionTableEntry) [] (htab.trans rfl) (fun z hz => by
          have hz : z ∈ [(⟨0, 11, 14, 21⟩ : ExceptionTableEntry), (⟨0, 11, 18, 13⟩ : ExceptionTableEntry)] := hz
          rcases List.mem_cons.mp hz with rfl | hz
          · exact Or.inr ⟨by decide, xN 0, q1, hX.2.2.2.1 2 0 (by decide)⟩
          · rcases List.mem_cons.mp hz with rfl | hz
            · exact Or.inr ⟨by decide, xN 1, q2, hX.2.2.2.1 2 1 (by decide)⟩
            · exact absurd hz List.not_mem_nil) rfl (by decide) q3 (va_Nw.use rfl (hX.2.2.1 2)) hc9 hv9 hcl9 ?_
        refine W.eq (g2 := F0 m 22 ls [.ref q9]) rfl ?_
        refine lv_astore (lv' := [(5, .ref q9), (0, .ref p1), (1, .int p2), (2, .int p3), (3, .int p4), (4, .ref p5)]) hx hb dL_increase_22 hl (by decide) rfl (fun ls hl => ?_)
        refine lv_iconst (v := 3) hx hb dL_increase_24 (by decide) ?_
        exact vx_ret (xe_i hx hb hr hlocks hbase hh hK hX hS h (Nat.le_of_ble_eq_true rfl) (Nat.le_of_ble_eq_true rfl) dL_increase_25)
  obtain ⟨g4, h⟩ := h
  obtain ⟨g5, h⟩ := h
  refine xr_last hx hb hK hh g4 hS g5 dL_increase_10 (fun H locs hh hS => ?_)
  obtain ⟨m6, em6⟩ : ∃ z : MM, z = sAJ m3 p5 (va_up (mAJ m3 p5) (0 : Int32).toNatClampNeg r2) := ⟨_, rfl⟩
  rw [← em6] at hh
  replace h := h m6 em6
  refine lv_goto (tgt := 26) hx hb dL_increase_11 (by decide) ?_
  refine lv_iconst (v := 0) hx hb dL_increase_26 (by decide) ?_
  exact vx_ret (xe_i hx hb hr hlocks hbase hh hK hX hS h (Nat.le_of_ble_eq_true rfl) (Nat.le_of_ble_eq_true rfl) dL_increase_27)

set_option maxHeartbeats 4000000 in
set_option maxRecDepth 100000 in
theorem mt_L_isKnown (l : Launch) (hl9 : l.stackTraces = false) (G : GG) (base : Nat) {p1 : Nat} {p2 : Int32} {p3 : Int32} {p4 : Nat} {m0 : MM} {Q : Int32 → MM → Prop} (h : wp_L_isKnown p1 p2 p3 p4 m0 Q) : vx_Met l yL_isKnown wsL_isKnown ({ frames := 8, cells := 1, slots := 6, locals := 140 }) (va_Pc [.ref p1, .int p2, .int p3, .ref p4] (SP G base m0)) (va_Qi Q (HB G base) (xA base)) (xX G base (fun _ _ => False)) 1 6 (xA base) := by
  refine vx_ofWH (cc := cL_isKnown) (maxL := 5) (ret := (some .int)) (hh := [(0, 17, 20, 13)]) (by decide) rfl ?_
  intro p e s m args below meth c s₁ B hml hv
  obtain ⟨rfl, hbase, hh, hK, hX⟩ := hv
  have C0 : BC p s m _ meth c G base RL cL_isKnown 5 (some .int) wsL_isKnown := ⟨B.exec, B.bytes, B.returns, hml, findClass_of_methodNamed B.named, atoms_spec (ws := wsL_isKnown) B.pre, B.notSynchronized, hK, hbase, hX⟩
  obtain ⟨hx, hb, hr, -, hown, hts, hlocks, -, -, -⟩ := id C0
  have hS : va_S (xA base) s.heap s.heap [] := va_S.rf
  have hl := lv_entry ([.ref p1, .int p2, .int p3, .ref p4]) (n := 5) (Nat.le_of_ble_eq_true rfl)
  rw [lg_entry_eq]
  generalize (lg_sl ([.ref p1, .int p2, .int p3, .ref p4]) ++ List.replicate (5 - (lg_sl ([.ref p1, .int p2, .int p3, .ref p4])).length) Slot.unset).toArray = ls at hl ⊢
  have hl : lv_has ls 5 [(0, .ref p1), (1, .int p2), (2, .int p3), (3, .ref p4)] := hl
  have htab : c.exceptionTable.toList = tableOf [(0, 17, 20, 13)] := vx_table (x := yL_law) B (hts _ List.mem_cons_self)
  unfold wp_L_isKnown at h
  have q1 : (Cond.classLink RL 13 "java/lang/IllegalArgumentException").before _ s = true := hts _ (List.mem_cons_of_mem _ (List.mem_append_left _ (List.mem_append_left _ (List.mem_append_left _ (List.mem_append_left _ (List.mem_of_getElem? (i := 0) rfl))))))
  refine lv_aload_n hx hb dL_isKnown_0 rfl (lv_at hl 3 rfl) ?_
  refine lv_iconst (v := 0) hx hb dL_isKnown_1 (by decide) ?_
  refine lv_aload_n hx hb dL_isKnown_2 rfl (lv_at hl 0 rfl) ?_
  refine lv_iload_n hx hb dL_isKnown_3 rfl (lv_at hl 1 rfl) ?_
  refine lv_iload_n hx hb dL_isKnown_4 rfl (lv_at hl 2 rfl) ?_
  obtain ⟨g1, h⟩ := h
  refine xt_i (vx_runV (As := [.int p2, .int p3]) (rest := [.int (0 : Int32), .ref p4]) ⟨hx, hb, hml, hown, hts⟩ (mt_X5_isKnown l hl9 G base h) (cwV 2 hts gL_isKnown_X5_isKnown rfl rfl rfl (by decide +kernel) ⟨Nat.le_of_ble_eq_true rfl, Nat.le_of_ble_eq_true rfl⟩) (xp_V hbase hh hK hX hS (ci := 5) g1 (by decide) rfl) rfl rfl hl.1 rfl (lv_room (Nat.le_of_ble_eq_true rfl)) dL_isKnown_5 ⟨Nat.le_of_ble_eq_true rfl, Nat.le_of_ble_eq_true rfl⟩) hS (fun k9 m9 H locs q9 ce h hh hS hc9 hv9 hcl9 => ?_) (fun r2 m3 H locs h hh hS => ?_)
  · by_cases z0 : k9 = 0
    · subst z0
      have h := h.1 rfl
      exact h.elim
    · by_cases z1 : k9 = 1
      · subst z1
        have h := h.2.1 rfl
        refine vx_catch (name := xN 1) hown [] (⟨0, 17, 20, 13⟩ : ExceptionTableEntry) [] (htab.trans rfl) (fun z hz => absurd hz List.not_mem_nil) rfl (by decide) q1 (va_Nw.use rfl (hX.2.2.1 1)) hc9 hv9 hcl9 ?_
        refine W.eq (g2 := F0 m 20 ls [.ref q9]) rfl ?_
        refine lv_astore (lv' := [(4, .ref q9), (0, .ref p1), (1, .int p2), (2, .int p3), (3, .ref p4)]) hx hb dL_isKnown_20 hl (by decide) rfl (fun ls hl => ?_)
        refine lv_iconst (v := 1) hx hb dL_isKnown_22 (by decide) ?_
        exact vx_ret (xe_i hx hb hr hlocks hbase hh hK hX hS h (Nat.le_of_ble_eq_true rfl) (Nat.le_of_ble_eq_true rfl) dL_isKnown_23)
      · rw [xN_2 z0 z1] at hcl9
        have h := h.2.2 z0 z1
        exact h.elim
  refine lv_if_eq (tgt := 15) hx hb dL_isKnown_8 (by decide) (fun c4 => ?_) (fun c4 => ?_)
  · replace h := h.1 c4
    refine lv_lconst (v := 0) hx hb dL_isKnown_15 (by decide) ?_
    obtain ⟨g5, h⟩ := h
    obtain ⟨g6, h⟩ := h
    refine xr_last hx hb hK hh g5 hS g6 dL_isKnown_16 (fun H locs hh hS => ?_)
    obtain ⟨m7, em7⟩ : ∃ z : MM, z = sAJ m3 p4 (va_up (mAJ m3 p4) (0 : Int32).toNatClampNeg (0 : Int64)) := ⟨_, rfl⟩
    rw [← em7] at hh
    replace h := h m7 em7
    refine lv_goto (tgt := 24) hx hb dL_isKnown_17 (by decide) ?_
    refine lv_iconst (v := 0) hx hb dL_isKnown_24 (by decide) ?_
    exact vx_ret (xe_i hx hb hr hlocks hbase hh hK hX hS h (Nat.le_of_ble_eq_true rfl) (Nat.le_of_ble_eq_true rfl) dL_isKnown_25)
  · replace h := h.2 c4
    refine lv_lconst (v := 1) hx hb dL_isKnown_11 (by decide) ?_
    refine lv_goto (tgt := 16) hx hb dL_isKnown_12 (by decide) ?_
    obtain ⟨g8, h⟩ := h
    obtain ⟨g9, h⟩ := h
    refine xr_last hx hb hK hh g8 hS g9 dL_isKnown_16 (fun H locs hh hS => ?_)
    obtain ⟨m10, em10⟩ : ∃ z : MM, z = sAJ m3 p4 (va_up (mAJ m3 p4) (0 : Int32).toNatClampNeg (1 : Int64)) := ⟨_, rfl⟩
    rw [← em10] at hh
    replace h := h m10 em10
    refine lv_goto (tgt := 24) hx hb dL_isKnown_17 (by decide) ?_
    refine lv_iconst (v := 0) hx hb dL_isKnown_24 (by decide) ?_
    exact vx_ret (xe_i hx hb hr hlocks hbase hh hK hX hS h (Nat.le_of_ble_eq_true rfl) (Nat.le_of_ble_eq_true rfl) dL_isKnown_25)

set_option maxHeartbeats 4000000 in
set_option maxRecDepth 100000 in
theorem mt_L_last (l : Launch) (hl9 : l.stackTraces = false) (G : GG) (base : Nat) {p1 : Nat} {p2 : Int32} {p3 : Int32} {p4 : Int32} {p5 : Nat} {m0 : MM} {Q : Int32 → MM → Prop} (h : wp_L_last p1 p2 p3 p4 p5 m0 Q) : vx_Met l yL_last wsL_last ({ frames := 11, cells := 4, slots := 24, locals := 212 }) (va_Pc [.ref p1, .int p2, .int p3, .int p4, .ref p5] (SP G base m0)) (va_Qi Q (HB G base) (xA base)) (xX G base (fun _ _ => False)) 4 24 (xA base) := by
  refine vx_ofWH (cc := cL_last) (maxL := 6) (ret := (some .int)) (hh := [(0, 12, 15, 21), (0, 12, 19, 13), (0, 12, 23, 15)]) (by decide) rfl ?_
  intro p e s m args below meth c s₁ B hml hv
  obtain ⟨rfl, hbase, hh, hK, hX⟩ := hv
  have C0 : BC p s m _ meth c G base RL cL_last 6 (some .int) wsL_last := ⟨B.exec, B.bytes, B.returns, hml, findClass_of_methodNamed B.named, atoms_spec (ws := wsL_last) B.pre, B.notSynchronized, hK, hbase, hX⟩
  obtain ⟨hx, hb, hr, -, hown, hts, hlocks, -, -, -⟩ := id C0
  have hS : va_S (xA base) s.heap s.heap [] := va_S.rf
  have hl := lv_entry ([.ref p1, .int p2, .int p3, .int p4, .ref p5]) (n := 6) (Nat.le_of_ble_eq_true rfl)
  rw [lg_entry_eq]
  generalize (lg_sl ([.ref p1, .int p2, .int p3, .int p4, .ref p5]) ++ List.replicate (6 - (lg_sl ([.ref p1, .int p2, .int p3, .int p4, .ref p5])).length) Slot.unset).toArray = ls at hl ⊢
  have hl : lv_has ls 6 [(0, .ref p1), (1, .int p2), (2, .int p3), (3, .int p4), (4, .ref p5)] := hl
  have htab : c.exceptionTable.toList = tableOf [(0, 12, 15, 21), (0, 12, 19, 13), (0, 12, 23, 15)] := vx_table (x := yL_law) B (hts _ List.mem_cons_self)
  unfold wp_L_last at h
  have q1 : (Cond.classLink RL 21 "java/lang/IndexOutOfBoundsException").before _ s = true := hts _ (List.mem_cons_of_mem _ (List.mem_append_left _ (List.mem_append_left _ (List.mem_append_left _ (List.mem_append_left _ (List.mem_append_left _ (List.mem_append_left _ (List.mem_append_left _ (List.mem_append_left _ (List.mem_of_getElem? (i := 0) rfl))))))))))
  have q2 : (Cond.classLink RL 13 "java/lang/IllegalArgumentException").before _ s = true := hts _ (List.mem_cons_of_mem _ (List.mem_append_left _ (List.mem_append_left _ (List.mem_append_left _ (List.mem_append_left _ (List.mem_append_left _ (List.mem_append_left _ (List.mem_append_left _ (List.mem_append_left _ (List.mem_of_getElem? (i := 1) rfl))))))))))
  have q3 : (Cond.classLink RL 15 "java/lang/IllegalStateException").before _ s = true := hts _ (List.mem_cons_of_mem _ (List.mem_append_left _ (List.mem_append_left _ (List.mem_append_left _ (List.mem_append_left _ (List.mem_append_left _ (List.mem_append_left _ (List.mem_append_left _ (List.mem_append_left _ (List.mem_of_getElem? (i := 2) rfl))))))))))
  refine lv_aload hx hb dL_last_0 (lv_at hl 4 rfl) ?_
  refine lv_iconst (v := 0) hx hb dL_last_2 (by decide) ?_
  refine lv_aload_n hx hb dL_last_3 rfl (lv_at hl 0 rfl) ?_
  refine lv_iload_n hx hb dL_last_4 rfl (lv_at hl 1 rfl) ?_
  refine lv_iload_n hx hb dL_last_5 rfl (lv_at hl 2 rfl) ?_
  refine lv_iload_n hx hb dL_last_6 rfl (lv_at hl 3 rfl) ?_
  obtain ⟨g1, h⟩ := h
  refine xt_i (vx_runV (As := [.int p2, .int p3, .int p4]) (rest := [.int (0 : Int32), .ref p5]) ⟨hx, hb, hml, hown, hts⟩ (mt_X5_last l hl9 G base h) (cwV 3 hts gL_last_X5_last rfl rfl rfl (by decide +kernel) ⟨Nat.le_of_ble_eq_true rfl, Nat.le_of_ble_eq_true rfl⟩) (xp_V hbase hh hK hX hS (ci := 5) g1 (by decide) rfl) rfl rfl hl.1 rfl (lv_room (Nat.le_of_ble_eq_true rfl)) dL_last_7 ⟨Nat.le_of_ble_eq_true rfl, Nat.le_of_ble_eq_true rfl⟩) hS (fun k9 m9 H locs q9 ce h hh hS hc9 hv9 hcl9 => ?_) (fun r2 m3 H locs h hh hS => ?_)
  · by_cases z0 : k9 = 0
    · subst z0
      have h := h.1 rfl
      refine vx_catch (name := xN 0) hown [] (⟨0, 12, 15, 21⟩ : ExceptionTableEntry) [(⟨0, 12, 19, 13⟩ : ExceptionTableEntry), (⟨0, 12, 23, 15⟩ : ExceptionTableEntry)] (htab.trans rfl) (fun z hz => absurd hz List.not_mem_nil) rfl (by decide) q1 (va_Nw.use rfl (hX.2.2.1 0)) hc9 hv9 hcl9 ?_
      refine W.eq (g2 := F0 m 15 ls [.ref q9]) rfl ?_
      refine lv_astore (lv' := [(5, .ref q9), (0, .ref p1), (1, .int p2), (2, .int p3), (3, .int p4), (4, .ref p5)]) hx hb dL_last_15 hl (by decide) rfl (fun ls hl => ?_)
      refine lv_iconst (v := 1) hx hb dL_last_17 (by decide) ?_
      exact vx_ret (xe_i hx hb hr hlocks hbase hh hK hX hS h (Nat.le_of_ble_eq_true rfl) (Nat.le_of_ble_eq_true rfl) dL_last_18)
    · by_cases z1 : k9 = 1
      · subst z1
        have h := h.2.1 rfl
        refine vx_catch (name := xN 1) hown [(⟨0, 12, 15, 21⟩ : ExceptionTableEntry)] (⟨0, 12, 19, 13⟩ : ExceptionTableEntry) [(⟨0, 12, 23, 15⟩ : ExceptionTableEntry)] (htab.trans rfl) (fun z hz => by
          have hz : z ∈ [(⟨0, 12, 15, 21⟩ : ExceptionTableEntry)] := hz
          rcases List.mem_cons.mp hz with rfl | hz
          · exact Or.inr ⟨by decide, xN 0, q1, hX.2.2.2.1 1 0 (by decide)⟩
          · exact absurd hz List.not_mem_nil) rfl (by decide) q2 (va_Nw.use rfl (hX.2.2.1 1)) hc9 hv9 hcl9 ?_
        refine W.eq (g2 := F0 m 19 ls [.ref q9]) rfl ?_
        refine lv_astore (lv' := [(5, .ref q9), (0, .ref p1), (1, .int p2), (2, .int p3), (3, .int p4), (4, .ref p5)]) hx hb dL_last_19 hl (by decide) rfl (fun ls hl => ?_)
        refine lv_iconst (v := 2) hx hb dL_last_21 (by decide) ?_
        exact vx_ret (xe_i hx hb hr hlocks hbase hh hK hX hS h (Nat.le_of_ble_eq_true rfl) (Nat.le_of_ble_eq_true rfl) dL_last_22)
      · rw [xN_2 z0 z1] at hcl9
        have h := h.2.2 z0 z1
        refine vx_catch (name := xN 2) hown [(⟨0, 12, 15, 21⟩ : ExceptionTableEntry), (⟨0, 12, 19, 13⟩ : ExceptionTableEntry)] (⟨0, 12, 23, 15⟩ : ExceptionTableEntry) [] (htab.trans rfl) (fun z hz => by
          have hz : z ∈ [(⟨0, 12, 15, 21⟩ : ExceptionTableEntry), (⟨0, 12, 19, 13⟩ : ExceptionTableEntry)] := hz
          rcases List.mem_cons.mp hz with rfl | hz
          · exact Or.inr ⟨by decide, xN 0, q1, hX.2.2.2.1 2 0 (by decide)⟩
          · rcases List.mem_cons.mp hz with rfl | hz
            · exact Or.inr ⟨by decide, xN 1, q2, hX.2.2.2.1 2 1 (by decide)⟩
            · exact absurd hz List.not_mem_nil) rfl (by decide) q3 (va_Nw.use rfl (hX.2.2.1 2)) hc9 hv9 hcl9 ?_
        refine W.eq (g2 := F0 m 23 ls [.ref q9]) rfl ?_
        refine lv_astore (lv' := [(5, .ref q9), (0, .ref p1), (1, .int p2), (2, .int p3), (3, .int p4), (4, .ref p5)]) hx hb dL_last_23 hl (by decide) rfl (fun ls hl => ?_)
        refine lv_iconst (v := 3) hx hb dL_last_25 (by decide) ?_
        exact vx_ret (xe_i hx hb hr hlocks hbase hh hK hX hS h (Nat.le_of_ble_eq_true rfl) (Nat.le_of_ble_eq_true rfl) dL_last_26)
  refine lv_i2l hx hb dL_last_10 rfl ?_
  obtain ⟨g4, h⟩ := h
  obtain ⟨g5, h⟩ := h
  refine xr_last hx hb hK hh g4 hS g5 dL_last_11 (fun H locs hh hS => ?_)
  obtain ⟨m6, em6⟩ : ∃ z : MM, z = sAJ m3 p5 (va_up (mAJ m3 p5) (0 : Int32).toNatClampNeg r2.toInt64) := ⟨_, rfl⟩
  rw [← em6] at hh
  replace h := h m6 em6
  refine lv_goto (tgt := 27) hx hb dL_last_12 (by decide) ?_
  refine lv_iconst (v := 0) hx hb dL_last_27 (by decide) ?_
  exact vx_ret (xe_i hx hb hr hlocks hbase hh hK hX hS h (Nat.le_of_ble_eq_true rfl) (Nat.le_of_ble_eq_true rfl) dL_last_28)

set_option maxHeartbeats 4000000 in
set_option maxRecDepth 100000 in
theorem mt_L_put (l : Launch) (hl9 : l.stackTraces = false) (G : GG) (base : Nat) {p1 : Nat} {p2 : Int32} {p3 : Int32} {p4 : Int32} {p5 : Nat} {m0 : MM} {Q : Int32 → MM → Prop} {kc ks : Nat} (h : wp_L_put p1 p2 p3 p4 p5 m0 Q kc ks) : vx_Met l yL_put wsL_put ({ frames := 8, cells := kc, slots := ks, locals := 211 }) (va_Pc [.ref p1, .int p2, .int p3, .int p4, .ref p5] (SP G base m0)) (va_Qi Q (HB G base) (xA base)) (xX G base (fun _ _ => False)) kc ks (xA base) := by
  refine vx_ofWH (cc := cL_put) (maxL := 6) (ret := (some .int)) (hh := [(0, 19, 22, 21), (0, 19, 26, 13), (0, 19, 30, 15)]) (by decide) rfl ?_
  intro p e s m args below meth c s₁ B hml hv
  obtain ⟨rfl, hbase, hh, hK, hX⟩ := hv
  have C0 : BC p s m _ meth c G base RL cL_put 6 (some .int) wsL_put := ⟨B.exec, B.bytes, B.returns, hml, findClass_of_methodNamed B.named, atoms_spec (ws := wsL_put) B.pre, B.notSynchronized, hK, hbase, hX⟩
  obtain ⟨hx, hb, hr, -, hown, hts, hlocks, -, -, -⟩ := id C0
  have hS : va_S (xA base) s.heap s.heap [] := va_S.rf
  have hl := lv_entry ([.ref p1, .int p2, .int p3, .int p4, .ref p5]) (n := 6) (Nat.le_of_ble_eq_true rfl)
  rw [lg_entry_eq]
  generalize (lg_sl ([.ref p1, .int p2, .int p3, .int p4, .ref p5]) ++ List.replicate (6 - (lg_sl ([.ref p1, .int p2, .int p3, .int p4, .ref p5])).length) Slot.unset).toArray = ls at hl ⊢
  have hl : lv_has ls 6 [(0, .ref p1), (1, .int p2), (2, .int p3), (3, .int p4), (4, .ref p5)] := hl
  have htab : c.exceptionTable.toList = tableOf [(0, 19, 22, 21), (0, 19, 26, 13), (0, 19, 30, 15)] := vx_table (x := yL_law) B (hts _ List.mem_cons_self)
  unfold wp_L_put at h
  have hcc : 0 + kc ≤ kc := by omega
  have hss : 0 + ks ≤ ks := by omega
  have q1 : (Cond.classLink RL 21 "java/lang/IndexOutOfBoundsException").before _ s = true := hts _ (List.mem_cons_of_mem _ (List.mem_append_left _ (List.mem_append_left _ (List.mem_append_left _ (List.mem_append_left _ (List.mem_append_left _ (List.mem_append_left _ (List.mem_append_left _ (List.mem_append_left _ (List.mem_append_left _ (List.mem_of_getElem? (i := 0) rfl)))))))))))
  have q2 : (Cond.classLink RL 13 "java/lang/IllegalArgumentException").before _ s = true := hts _ (List.mem_cons_of_mem _ (List.mem_append_left _ (List.mem_append_left _ (List.mem_append_left _ (List.mem_append_left _ (List.mem_append_left _ (List.mem_append_left _ (List.mem_append_left _ (List.mem_append_left _ (List.mem_append_left _ (List.mem_of_getElem? (i := 1) rfl)))))))))))
  have q3 : (Cond.classLink RL 15 "java/lang/IllegalStateException").before _ s = true := hts _ (List.mem_cons_of_mem _ (List.mem_append_left _ (List.mem_append_left _ (List.mem_append_left _ (List.mem_append_left _ (List.mem_append_left _ (List.mem_append_left _ (List.mem_append_left _ (List.mem_append_left _ (List.mem_append_left _ (List.mem_of_getElem? (i := 2) rfl)))))))))))
  refine lv_aload hx hb dL_put_0 (lv_at hl 4 rfl) ?_
  refine lv_iconst (v := 0) hx hb dL_put_2 (by decide) ?_
  refine lv_aload_n hx hb dL_put_3 rfl (lv_at hl 0 rfl) ?_
  refine lv_iload_n hx hb dL_put_4 rfl (lv_at hl 1 rfl) ?_
  refine lv_iload_n hx hb dL_put_5 rfl (lv_at hl 2 rfl) ?_
  refine lv_iload_n hx hb dL_put_6 rfl (lv_at hl 3 rfl) ?_
  obtain ⟨c1, s2, g3, g4, h⟩ := h
  obtain ⟨g5, h⟩ := h
  refine xt_i (vx_runV (As := [.int p2, .int p3, .int p4]) (rest := [.int (0 : Int32), .ref p5]) ⟨hx, hb, hml, hown, hts⟩ (mt_X5_put l hl9 G base h) (cwV 3 hts gL_put_X5_put rfl rfl rfl (by decide +kernel) ⟨Nat.le_of_ble_eq_true rfl, Nat.le_of_ble_eq_true rfl⟩) (xp_V hbase hh hK hX hS (ci := 5) g5 (by decide) rfl) rfl rfl hl.1 rfl (lv_room (Nat.le_of_ble_eq_true rfl)) dL_put_7 ⟨by show _ ≤ kc; omega, by show _ ≤ ks; omega⟩) hS (fun k9 m9 H locs q9 ce h hh hS hc9 hv9 hcl9 => ?_) (fun r6 m7 H locs h hh hS => ?_)
  · by_cases z0 : k9 = 0
    · subst z0
      have h := h.1 rfl
      refine vx_catch (name := xN 0) hown [] (⟨0, 19, 22, 21⟩ : ExceptionTableEntry) [(⟨0, 19, 26, 13⟩ : ExceptionTableEntry), (⟨0, 19, 30, 15⟩ : ExceptionTableEntry)] (htab.trans rfl) (fun z hz => absurd hz List.not_mem_nil) rfl (by decide) q1 (va_Nw.use rfl (hX.2.2.1 0)) hc9 hv9 hcl9 ?_
      refine W.eq (g2 := F0 m 22 ls [.ref q9]) rfl ?_
      refine lv_astore (lv' := [(5, .ref q9), (0, .ref p1), (1, .int p2), (2, .int p3), (3, .int p4), (4, .ref p5)]) hx hb dL_put_22 hl (by decide) rfl (fun ls hl => ?_)
      refine lv_iconst (v := 1) hx hb dL_put_24 (by decide) ?_
      exact vx_ret (xe_i hx hb hr hlocks hbase hh hK hX hS h (by omega) (by omega) dL_put_25)
    · by_cases z1 : k9 = 1
      · subst z1
        have h := h.2.1 rfl
        refine vx_catch (name := xN 1) hown [(⟨0, 19, 22, 21⟩ : ExceptionTableEntry)] (⟨0, 19, 26, 13⟩ : ExceptionTableEntry) [(⟨0, 19, 30, 15⟩ : ExceptionTableEntry)] (htab.trans rfl) (fun z hz => by
          have hz : z ∈ [(⟨0, 19, 22, 21⟩ : ExceptionTableEntry)] := hz
          rcases List.mem_cons.mp hz with rfl | hz
          · exact Or.inr ⟨by decide, xN 0, q1, hX.2.2.2.1 1 0 (by decide)⟩
          · exact absurd hz List.not_mem_nil) rfl (by decide) q2 (va_Nw.use rfl (hX.2.2.1 1)) hc9 hv9 hcl9 ?_
        refine W.eq (g2 := F0 m 26 ls [.ref q9]) rfl ?_
        refine lv_astore (lv' := [(5, .ref q9), (0, .ref p1), (1, .int p2), (2, .int p3), (3, .int p4), (4, .ref p5)]) hx hb dL_put_26 hl (by decide) rfl (fun ls hl => ?_)
        refine lv_iconst (v := 2) hx hb dL_put_28 (by decide) ?_
        exact vx_ret (xe_i hx hb hr hlocks hbase hh hK hX hS h (by omega) (by omega) dL_put_29)
      · rw [xN_2 z0 z1] at hcl9
        have h := h.2.2 z0 z1
        refine vx_catch (name := xN 2) hown [(⟨0, 19, 22, 21⟩ : ExceptionTableEntry), (⟨0, 19, 26, 13⟩ : ExceptionTableEntry)] (⟨0, 19, 30, 15⟩ : ExceptionTableEntry) [] (htab.trans rfl) (fun z hz => by
          have hz : z ∈ [(⟨0, 19, 22, 21⟩ : ExceptionTableEntry), (⟨0, 19, 26, 13⟩ : ExceptionTableEntry)] := hz
          rcases List.mem_cons.mp hz with rfl | hz
          · exact Or.inr ⟨by decide, xN 0, q1, hX.2.2.2.1 2 0 (by decide)⟩
          · rcases List.mem_cons.mp hz with rfl | hz
            · exact Or.inr ⟨by decide, xN 1, q2, hX.2.2.2.1 2 1 (by decide)⟩
            · exact absurd hz List.not_mem_nil) rfl (by decide) q3 (va_Nw.use rfl (hX.2.2.1 2)) hc9 hv9 hcl9 ?_
        refine W.eq (g2 := F0 m 30 ls [.ref q9]) rfl ?_
        refine lv_astore (lv' := [(5, .ref q9), (0, .ref p1), (1, .int p2), (2, .int p3), (3, .int p4), (4, .ref p5)]) hx hb dL_put_30 hl (by decide) rfl (fun ls hl => ?_)
        refine lv_iconst (v := 3) hx hb dL_put_32 (by decide) ?_
        exact vx_ret (xe_i hx hb hr hlocks hbase hh hK hX hS h (by omega) (by omega) dL_put_33)
  obtain ⟨kc8, ekc8⟩ : ∃ z : Nat, z = kc - c1 := ⟨_, rfl⟩
  obtain ⟨ks9, eks9⟩ : ∃ z : Nat, z = ks - s2 := ⟨_, rfl⟩
  replace h := h kc8 ks9 ekc8 eks9
  obtain ⟨cl10, ecl10⟩ : ∃ z : Nat, z = 0 + c1 := ⟨_, rfl⟩
  obtain ⟨sl11, esl11⟩ : ∃ z : Nat, z = 0 + s2 := ⟨_, rfl⟩
  refine W_cs ecl10 esl11 ?_
  have hcc : cl10 + kc8 ≤ kc := by omega
  have hss : sl11 + ks9 ≤ ks := by omega
  refine lv_if_eq (tgt := 17) hx hb dL_put_10 (by decide) (fun c12 => ?_) (fun c12 => ?_)
  · replace h := h.1 c12
    refine lv_lconst (v := 0) hx hb dL_put_17 (by decide) ?_
    obtain ⟨g13, h⟩ := h
    obtain ⟨g14, h⟩ := h
    refine xr_last hx hb hK hh g13 hS g14 dL_put_18 (fun H locs hh hS => ?_)
    obtain ⟨m15, em15⟩ : ∃ z : MM, z = sAJ m7 p5 (va_up (mAJ m7 p5) (0 : Int32).toNatClampNeg (0 : Int64)) := ⟨_, rfl⟩
    rw [← em15] at hh
    replace h := h m15 em15
    refine lv_goto (tgt := 34) hx hb dL_put_19 (by decide) ?_
    refine lv_iconst (v := 0) hx hb dL_put_34 (by decide) ?_
    exact vx_ret (xe_i hx hb hr hlocks hbase hh hK hX hS h (by omega) (by omega) dL_put_35)
  · replace h := h.2 c12
    refine lv_lconst (v := 1) hx hb dL_put_13 (by decide) ?_
    refine lv_goto (tgt := 18) hx hb dL_put_14 (by decide) ?_
    obtain ⟨g16, h⟩ := h
    obtain ⟨g17, h⟩ := h
    refine xr_last hx hb hK hh g16 hS g17 dL_put_18 (fun H locs hh hS => ?_)
    obtain ⟨m18, em18⟩ : ∃ z : MM, z = sAJ m7 p5 (va_up (mAJ m7 p5) (0 : Int32).toNatClampNeg (1 : Int64)) := ⟨_, rfl⟩
    rw [← em18] at hh
    replace h := h m18 em18
    refine lv_goto (tgt := 34) hx hb dL_put_19 (by decide) ?_
    refine lv_iconst (v := 0) hx hb dL_put_34 (by decide) ?_
    exact vx_ret (xe_i hx hb hr hlocks hbase hh hK hX hS h (by omega) (by omega) dL_put_35)

set_option maxHeartbeats 4000000 in
set_option maxRecDepth 100000 in
theorem mt_L_putMany (l : Launch) (hl9 : l.stackTraces = false) (G : GG) (base : Nat) {p1 : Nat} {p2 : Int32} {p3 : Int32} {p4 : Int32} {p5 : Int32} {p6 : Int32} {p7 : Int32} {p8 : Nat} {m0 : MM} {Q : Int32 → MM → Prop} {kc ks : Nat} (h : wp_L_putMany p1 p2 p3 p4 p5 p6 p7 p8 m0 Q kc ks) : vx_Met l yL_putMany wsL_putMany ({ frames := 8, cells := kc, slots := ks, locals := 217 }) (va_Pc [.ref p1, .int p2, .int p3, .int p4, .int p5, .int p6, .int p7, .ref p8] (SP G base m0)) (va_Qi Q (HB G base) (xA base)) (xX G base (fun _ _ => False)) kc ks (xA base) := by
  refine vx_ofWH (cc := cL_putMany) (maxL := 9) (ret := (some .int)) (hh := [(0, 18, 21, 21), (0, 18, 25, 13), (0, 18, 29, 15)]) (by decide) rfl ?_
  intro p e s m args below meth c s₁ B hml hv
  obtain ⟨rfl, hbase, hh, hK, hX⟩ := hv
  have C0 : BC p s m _ meth c G base RL cL_putMany 9 (some .int) wsL_putMany := ⟨B.exec, B.bytes, B.returns, hml, findClass_of_methodNamed B.named, atoms_spec (ws := wsL_putMany) B.pre, B.notSynchronized, hK, hbase, hX⟩
  obtain ⟨hx, hb, hr, -, hown, hts, hlocks, -, -, -⟩ := id C0
  have hS : va_S (xA base) s.heap s.heap [] := va_S.rf
  have hl := lv_entry ([.ref p1, .int p2, .int p3, .int p4, .int p5, .int p6, .int p7, .ref p8]) (n := 9) (Nat.le_of_ble_eq_true rfl)
  rw [lg_entry_eq]
  generalize (lg_sl ([.ref p1, .int p2, .int p3, .int p4, .int p5, .int p6, .int p7, .ref p8]) ++ List.replicate (9 - (lg_sl ([.ref p1, .int p2, .int p3, .int p4, .int p5, .int p6, .int p7, .ref p8])).length) Slot.unset).toArray = ls at hl ⊢
  have hl : lv_has ls 9 [(0, .ref p1), (1, .int p2), (2, .int p3), (3, .int p4), (4, .int p5), (5, .int p6), (6, .int p7), (7, .ref p8)] := hl
  have htab : c.exceptionTable.toList = tableOf [(0, 18, 21, 21), (0, 18, 25, 13), (0, 18, 29, 15)] := vx_table (x := yL_law) B (hts _ List.mem_cons_self)
  unfold wp_L_putMany at h
  have hcc : 0 + kc ≤ kc := by omega
  have hss : 0 + ks ≤ ks := by omega
  have q1 : (Cond.classLink RL 21 "java/lang/IndexOutOfBoundsException").before _ s = true := hts _ (List.mem_cons_of_mem _ (List.mem_append_left _ (List.mem_append_left _ (List.mem_append_left _ (List.mem_append_left _ (List.mem_append_left _ (List.mem_append_left _ (List.mem_append_left _ (List.mem_append_left _ (List.mem_append_left _ (List.mem_of_getElem? (i := 0) rfl)))))))))))
  have q2 : (Cond.classLink RL 13 "java/lang/IllegalArgumentException").before _ s = true := hts _ (List.mem_cons_of_mem _ (List.mem_append_left _ (List.mem_append_left _ (List.mem_append_left _ (List.mem_append_left _ (List.mem_append_left _ (List.mem_append_left _ (List.mem_append_left _ (List.mem_append_left _ (List.mem_append_left _ (List.mem_of_getElem? (i := 1) rfl)))))))))))
  have q3 : (Cond.classLink RL 15 "java/lang/IllegalStateException").before _ s = true := hts _ (List.mem_cons_of_mem _ (List.mem_append_left _ (List.mem_append_left _ (List.mem_append_left _ (List.mem_append_left _ (List.mem_append_left _ (List.mem_append_left _ (List.mem_append_left _ (List.mem_append_left _ (List.mem_append_left _ (List.mem_of_getElem? (i := 2) rfl)))))))))))
  refine lv_aload hx hb dL_putMany_0 (lv_at hl 7 rfl) ?_
  refine lv_iconst (v := 0) hx hb dL_putMany_2 (by decide) ?_
  refine lv_aload_n hx hb dL_putMany_3 rfl (lv_at hl 0 rfl) ?_
  refine lv_iload_n hx hb dL_putMany_4 rfl (lv_at hl 1 rfl) ?_
  refine lv_iload_n hx hb dL_putMany_5 rfl (lv_at hl 2 rfl) ?_
  refine lv_iload_n hx hb dL_putMany_6 rfl (lv_at hl 3 rfl) ?_
  refine lv_iload hx hb dL_putMany_7 (lv_at hl 4 rfl) ?_
  refine lv_iload hx hb dL_putMany_9 (lv_at hl 5 rfl) ?_
  refine lv_iload hx hb dL_putMany_11 (lv_at hl 6 rfl) ?_
  obtain ⟨c1, s2, g3, g4, h⟩ := h
  obtain ⟨g5, h⟩ := h
  refine xt_i (vx_runV (As := [.int p2, .int p3, .int p4, .int p5, .int p6, .int p7]) (rest := [.int (0 : Int32), .ref p8]) ⟨hx, hb, hml, hown, hts⟩ (mt_X5_putMany l hl9 G base h) (cwV 6 hts gL_putMany_X5_putMany rfl rfl rfl (by decide +kernel) ⟨Nat.le_of_ble_eq_true rfl, Nat.le_of_ble_eq_true rfl⟩) (xp_V hbase hh hK hX hS (ci := 5) g5 (by decide) rfl) rfl rfl hl.1 rfl (lv_room (Nat.le_of_ble_eq_true rfl)) dL_putMany_13 ⟨by show _ ≤ kc; omega, by show _ ≤ ks; omega⟩) hS (fun k9 m9 H locs q9 ce h hh hS hc9 hv9 hcl9 => ?_) (fun r6 m7 H locs h hh hS => ?_)
  · by_cases z0 : k9 = 0
    · subst z0
      have h := h.1 rfl
      refine vx_catch (name := xN 0) hown [] (⟨0, 18, 21, 21⟩ : ExceptionTableEntry) [(⟨0, 18, 25, 13⟩ : ExceptionTableEntry), (⟨0, 18, 29, 15⟩ : ExceptionTableEntry)] (htab.trans rfl) (fun z hz => absurd hz List.not_mem_nil) rfl (by decide) q1 (va_Nw.use rfl (hX.2.2.1 0)) hc9 hv9 hcl9 ?_
      refine W.eq (g2 := F0 m 21 ls [.ref q9]) rfl ?_
      refine lv_astore (lv' := [(8, .ref q9), (0, .ref p1), (1, .int p2), (2, .int p3), (3, .int p4), (4, .int p5), (5, .int p6), (6, .int p7), (7, .ref p8)]) hx hb dL_putMany_21 hl (by decide) rfl (fun ls hl => ?_)
      refine lv_iconst (v := 1) hx hb dL_putMany_23 (by decide) ?_
      exact vx_ret (xe_i hx hb hr hlocks hbase hh hK hX hS h (by omega) (by omega) dL_putMany_24)
    · by_cases z1 : k9 = 1
      · subst z1
        have h := h.2.1 rfl
        refine vx_catch (name := xN 1) hown [(⟨0, 18, 21, 21⟩ : ExceptionTableEntry)] (⟨0, 18, 25, 13⟩ : ExceptionTableEntry) [(⟨0, 18, 29, 15⟩ : ExceptionTableEntry)] (htab.trans rfl) (fun z hz => by
          have hz : z ∈ [(⟨0, 18, 21, 21⟩ : ExceptionTableEntry)] := hz
          rcases List.mem_cons.mp hz with rfl | hz
          · exact Or.inr ⟨by decide, xN 0, q1, hX.2.2.2.1 1 0 (by decide)⟩
          · exact absurd hz List.not_mem_nil) rfl (by decide) q2 (va_Nw.use rfl (hX.2.2.1 1)) hc9 hv9 hcl9 ?_
        refine W.eq (g2 := F0 m 25 ls [.ref q9]) rfl ?_
        refine lv_astore (lv' := [(8, .ref q9), (0, .ref p1), (1, .int p2), (2, .int p3), (3, .int p4), (4, .int p5), (5, .int p6), (6, .int p7), (7, .ref p8)]) hx hb dL_putMany_25 hl (by decide) rfl (fun ls hl => ?_)
        refine lv_iconst (v := 2) hx hb dL_putMany_27 (by decide) ?_
        exact vx_ret (xe_i hx hb hr hlocks hbase hh hK hX hS h (by omega) (by omega) dL_putMany_28)
      · rw [xN_2 z0 z1] at hcl9
        have h := h.2.2 z0 z1
        refine vx_catch (name := xN 2) hown [(⟨0, 18, 21, 21⟩ : ExceptionTableEntry), (⟨0, 18, 25, 13⟩ : ExceptionTableEntry)] (⟨0, 18, 29, 15⟩ : ExceptionTableEntry) [] (htab.trans rfl) (fun z hz => by
          have hz : z ∈ [(⟨0, 18, 21, 21⟩ : ExceptionTableEntry), (⟨0, 18, 25, 13⟩ : ExceptionTableEntry)] := hz
          rcases List.mem_cons.mp hz with rfl | hz
          · exact Or.inr ⟨by decide, xN 0, q1, hX.2.2.2.1 2 0 (by decide)⟩
          · rcases List.mem_cons.mp hz with rfl | hz
            · exact Or.inr ⟨by decide, xN 1, q2, hX.2.2.2.1 2 1 (by decide)⟩
            · exact absurd hz List.not_mem_nil) rfl (by decide) q3 (va_Nw.use rfl (hX.2.2.1 2)) hc9 hv9 hcl9 ?_
        refine W.eq (g2 := F0 m 29 ls [.ref q9]) rfl ?_
        refine lv_astore (lv' := [(8, .ref q9), (0, .ref p1), (1, .int p2), (2, .int p3), (3, .int p4), (4, .int p5), (5, .int p6), (6, .int p7), (7, .ref p8)]) hx hb dL_putMany_29 hl (by decide) rfl (fun ls hl => ?_)
        refine lv_iconst (v := 3) hx hb dL_putMany_31 (by decide) ?_
        exact vx_ret (xe_i hx hb hr hlocks hbase hh hK hX hS h (by omega) (by omega) dL_putMany_32)
  obtain ⟨kc8, ekc8⟩ : ∃ z : Nat, z = kc - c1 := ⟨_, rfl⟩
  obtain ⟨ks9, eks9⟩ : ∃ z : Nat, z = ks - s2 := ⟨_, rfl⟩
  replace h := h kc8 ks9 ekc8 eks9
  obtain ⟨cl10, ecl10⟩ : ∃ z : Nat, z = 0 + c1 := ⟨_, rfl⟩
  obtain ⟨sl11, esl11⟩ : ∃ z : Nat, z = 0 + s2 := ⟨_, rfl⟩
  refine W_cs ecl10 esl11 ?_
  have hcc : cl10 + kc8 ≤ kc := by omega
  have hss : sl11 + ks9 ≤ ks := by omega
  refine lv_i2l hx hb dL_putMany_16 rfl ?_
  obtain ⟨g12, h⟩ := h
  obtain ⟨g13, h⟩ := h
  refine xr_last hx hb hK hh g12 hS g13 dL_putMany_17 (fun H locs hh hS => ?_)
  obtain ⟨m14, em14⟩ : ∃ z : MM, z = sAJ m7 p8 (va_up (mAJ m7 p8) (0 : Int32).toNatClampNeg r6.toInt64) := ⟨_, rfl⟩
  rw [← em14] at hh
  replace h := h m14 em14
  refine lv_goto (tgt := 33) hx hb dL_putMany_18 (by decide) ?_
  refine lv_iconst (v := 0) hx hb dL_putMany_33 (by decide) ?_
  exact vx_ret (xe_i hx hb hr hlocks hbase hh hK hX hS h (by omega) (by omega) dL_putMany_34)

set_option maxHeartbeats 4000000 in
set_option maxRecDepth 100000 in
theorem mt_L_setRetention (l : Launch) (hl9 : l.stackTraces = false) (G : GG) (base : Nat) {p1 : Nat} {p2 : Int32} {p3 : Int32} {p4 : Nat} {m0 : MM} {Q : Int32 → MM → Prop} (h : wp_L_setRetention p1 p2 p3 p4 m0 Q) : vx_Met l yL_setRetention wsL_setRetention ({ frames := 9, cells := 2, slots := 12, locals := 182 }) (va_Pc [.ref p1, .int p2, .int p3, .ref p4] (SP G base m0)) (va_Qi Q (HB G base) (xA base)) (xX G base (fun _ _ => False)) 2 12 (xA base) := by
  refine vx_ofWH (cc := cL_setRetention) (maxL := 5) (ret := (some .int)) (hh := [(0, 10, 13, 13)]) (by decide) rfl ?_
  intro p e s m args below meth c s₁ B hml hv
  obtain ⟨rfl, hbase, hh, hK, hX⟩ := hv
  have C0 : BC p s m _ meth c G base RL cL_setRetention 5 (some .int) wsL_setRetention := ⟨B.exec, B.bytes, B.returns, hml, findClass_of_methodNamed B.named, atoms_spec (ws := wsL_setRetention) B.pre, B.notSynchronized, hK, hbase, hX⟩
  obtain ⟨hx, hb, hr, -, hown, hts, hlocks, -, -, -⟩ := id C0
  have hS : va_S (xA base) s.heap s.heap [] := va_S.rf
  have hl := lv_entry ([.ref p1, .int p2, .int p3, .ref p4]) (n := 5) (Nat.le_of_ble_eq_true rfl)
  rw [lg_entry_eq]
  generalize (lg_sl ([.ref p1, .int p2, .int p3, .ref p4]) ++ List.replicate (5 - (lg_sl ([.ref p1, .int p2, .int p3, .ref p4])).length) Slot.unset).toArray = ls at hl ⊢
  have hl : lv_has ls 5 [(0, .ref p1), (1, .int p2), (2, .int p3), (3, .ref p4)] := hl
  have htab : c.exceptionTable.toList = tableOf [(0, 10, 13, 13)] := vx_table (x := yL_law) B (hts _ List.mem_cons_self)
  unfold wp_L_setRetention at h
  have q1 : (Cond.classLink RL 13 "java/lang/IllegalArgumentException").before _ s = true := hts _ (List.mem_cons_of_mem _ (List.mem_append_left _ (List.mem_append_left _ (List.mem_append_left _ (List.mem_append_left _ (List.mem_append_left _ (List.mem_append_left _ (List.mem_append_left _ (List.mem_append_left _ (List.mem_of_getElem? (i := 0) rfl))))))))))
  refine lv_aload_n hx hb dL_setRetention_0 rfl (lv_at hl 3 rfl) ?_
  refine lv_iconst (v := 0) hx hb dL_setRetention_1 (by decide) ?_
  refine lv_aload_n hx hb dL_setRetention_2 rfl (lv_at hl 0 rfl) ?_
  refine lv_iload_n hx hb dL_setRetention_3 rfl (lv_at hl 1 rfl) ?_
  refine lv_iload_n hx hb dL_setRetention_4 rfl (lv_at hl 2 rfl) ?_
  obtain ⟨g1, h⟩ := h
  refine xt_i (vx_runV (As := [.int p2, .int p3]) (rest := [.int (0 : Int32), .ref p4]) ⟨hx, hb, hml, hown, hts⟩ (mt_X5_setRetention l hl9 G base h) (cwV 2 hts gL_setRetention_X5_setRetention rfl rfl rfl (by decide +kernel) ⟨Nat.le_of_ble_eq_true rfl, Nat.le_of_ble_eq_true rfl⟩) (xp_V hbase hh hK hX hS (ci := 5) g1 (by decide) rfl) rfl rfl hl.1 rfl (lv_room (Nat.le_of_ble_eq_true rfl)) dL_setRetention_5 ⟨Nat.le_of_ble_eq_true rfl, Nat.le_of_ble_eq_true rfl⟩) hS (fun k9 m9 H locs q9 ce h hh hS hc9 hv9 hcl9 => ?_) (fun r2 m3 H locs h hh hS => ?_)
  · by_cases z0 : k9 = 0
    · subst z0
      have h := h.1 rfl
      exact h.elim
    · by_cases z1 : k9 = 1
      · subst z1
        have h := h.2.1 rfl
        refine vx_catch (name := xN 1) hown [] (⟨0, 10, 13, 13⟩ : ExceptionTableEntry) [] (htab.trans rfl) (fun z hz => absurd hz List.not_mem_nil) rfl (by decide) q1 (va_Nw.use rfl (hX.2.2.1 1)) hc9 hv9 hcl9 ?_
        refine W.eq (g2 := F0 m 13 ls [.ref q9]) rfl ?_
        refine lv_astore (lv' := [(4, .ref q9), (0, .ref p1), (1, .int p2), (2, .int p3), (3, .ref p4)]) hx hb dL_setRetention_13 hl (by decide) rfl (fun ls hl => ?_)
        refine lv_iconst (v := 1) hx hb dL_setRetention_15 (by decide) ?_
        exact vx_ret (xe_i hx hb hr hlocks hbase hh hK hX hS h (Nat.le_of_ble_eq_true rfl) (Nat.le_of_ble_eq_true rfl) dL_setRetention_16)
      · rw [xN_2 z0 z1] at hcl9
        have h := h.2.2 z0 z1
        exact h.elim
  refine lv_i2l hx hb dL_setRetention_8 rfl ?_
  obtain ⟨g4, h⟩ := h
  obtain ⟨g5, h⟩ := h
  refine xr_last hx hb hK hh g4 hS g5 dL_setRetention_9 (fun H locs hh hS => ?_)
  obtain ⟨m6, em6⟩ : ∃ z : MM, z = sAJ m3 p4 (va_up (mAJ m3 p4) (0 : Int32).toNatClampNeg r2.toInt64) := ⟨_, rfl⟩
  rw [← em6] at hh
  replace h := h m6 em6
  refine lv_goto (tgt := 17) hx hb dL_setRetention_10 (by decide) ?_
  refine lv_iconst (v := 0) hx hb dL_setRetention_17 (by decide) ?_
  exact vx_ret (xe_i hx hb hr hlocks hbase hh hK hX hS h (Nat.le_of_ble_eq_true rfl) (Nat.le_of_ble_eq_true rfl) dL_setRetention_18)

set_option maxHeartbeats 4000000 in
set_option maxRecDepth 100000 in
theorem mt_L_rows (l : Launch) (hl9 : l.stackTraces = false) (G : GG) (base : Nat) {p1 : Nat} {p2 : Int32} {p3 : Int32} {p4 : Nat} {m0 : MM} {Q : Int32 → MM → Prop} (h : wp_L_rows p1 p2 p3 p4 m0 Q) : vx_Met l yL_rows wsL_rows ({ frames := 8, cells := 2, slots := 12, locals := 141 }) (va_Pc [.ref p1, .int p2, .int p3, .ref p4] (SP G base m0)) (va_Qi Q (HB G base) (xA base)) (xX G base (fun _ _ => False)) 2 12 (xA base) := by
  refine vx_ofWH (cc := cL_rows) (maxL := 5) (ret := (some .int)) (hh := [(0, 10, 13, 21), (0, 10, 17, 13)]) (by decide) rfl ?_
  intro p e s m args below meth c s₁ B hml hv
  obtain ⟨rfl, hbase, hh, hK, hX⟩ := hv
  have C0 : BC p s m _ meth c G base RL cL_rows 5 (some .int) wsL_rows := ⟨B.exec, B.bytes, B.returns, hml, findClass_of_methodNamed B.named, atoms_spec (ws := wsL_rows) B.pre, B.notSynchronized, hK, hbase, hX⟩
  obtain ⟨hx, hb, hr, -, hown, hts, hlocks, -, -, -⟩ := id C0
  have hS : va_S (xA base) s.heap s.heap [] := va_S.rf
  have hl := lv_entry ([.ref p1, .int p2, .int p3, .ref p4]) (n := 5) (Nat.le_of_ble_eq_true rfl)
  rw [lg_entry_eq]
  generalize (lg_sl ([.ref p1, .int p2, .int p3, .ref p4]) ++ List.replicate (5 - (lg_sl ([.ref p1, .int p2, .int p3, .ref p4])).length) Slot.unset).toArray = ls at hl ⊢
  have hl : lv_has ls 5 [(0, .ref p1), (1, .int p2), (2, .int p3), (3, .ref p4)] := hl
  have htab : c.exceptionTable.toList = tableOf [(0, 10, 13, 21), (0, 10, 17, 13)] := vx_table (x := yL_law) B (hts _ List.mem_cons_self)
  unfold wp_L_rows at h
  have q1 : (Cond.classLink RL 21 "java/lang/IndexOutOfBoundsException").before _ s = true := hts _ (List.mem_cons_of_mem _ (List.mem_append_left _ (List.mem_append_left _ (List.mem_append_left _ (List.mem_append_left _ (List.mem_append_left _ (List.mem_append_left _ (List.mem_append_left _ (List.mem_of_getElem? (i := 0) rfl)))))))))
  have q2 : (Cond.classLink RL 13 "java/lang/IllegalArgumentException").before _ s = true := hts _ (List.mem_cons_of_mem _ (List.mem_append_left _ (List.mem_append_left _ (List.mem_append_left _ (List.mem_append_left _ (List.mem_append_left _ (List.mem_append_left _ (List.mem_append_left _ (List.mem_of_getElem? (i := 1) rfl)))))))))
  refine lv_aload_n hx hb dL_rows_0 rfl (lv_at hl 3 rfl) ?_
  refine lv_iconst (v := 0) hx hb dL_rows_1 (by decide) ?_
  refine lv_aload_n hx hb dL_rows_2 rfl (lv_at hl 0 rfl) ?_
  refine lv_iload_n hx hb dL_rows_3 rfl (lv_at hl 1 rfl) ?_
  refine lv_iload_n hx hb dL_rows_4 rfl (lv_at hl 2 rfl) ?_
  obtain ⟨g1, h⟩ := h
  refine xt_i (vx_runV (As := [.int p2, .int p3]) (rest := [.int (0 : Int32), .ref p4]) ⟨hx, hb, hml, hown, hts⟩ (mt_X5_rows l hl9 G base h) (cwV 2 hts gL_rows_X5_rows rfl rfl rfl (by decide +kernel) ⟨Nat.le_of_ble_eq_true rfl, Nat.le_of_ble_eq_true rfl⟩) (xp_V hbase hh hK hX hS (ci := 5) g1 (by decide) rfl) rfl rfl hl.1 rfl (lv_room (Nat.le_of_ble_eq_true rfl)) dL_rows_5 ⟨Nat.le_of_ble_eq_true rfl, Nat.le_of_ble_eq_true rfl⟩) hS (fun k9 m9 H locs q9 ce h hh hS hc9 hv9 hcl9 => ?_) (fun r2 m3 H locs h hh hS => ?_)
  · by_cases z0 : k9 = 0
    · subst z0
      have h := h.1 rfl
      refine vx_catch (name := xN 0) hown [] (⟨0, 10, 13, 21⟩ : ExceptionTableEntry) [(⟨0, 10, 17, 13⟩ : ExceptionTableEntry)] (htab.trans rfl) (fun z hz => absurd hz List.not_mem_nil) rfl (by decide) q1 (va_Nw.use rfl (hX.2.2.1 0)) hc9 hv9 hcl9 ?_
      refine W.eq (g2 := F0 m 13 ls [.ref q9]) rfl ?_
      refine lv_astore (lv' := [(4, .ref q9), (0, .ref p1), (1, .int p2), (2, .int p3), (3, .ref p4)]) hx hb dL_rows_13 hl (by decide) rfl (fun ls hl => ?_)
      refine lv_iconst (v := 1) hx hb dL_rows_15 (by decide) ?_
      exact vx_ret (xe_i hx hb hr hlocks hbase hh hK hX hS h (Nat.le_of_ble_eq_true rfl) (Nat.le_of_ble_eq_true rfl) dL_rows_16)
    · by_cases z1 : k9 = 1
      · subst z1
        have h := h.2.1 rfl
        refine vx_catch (name := xN 1) hown [(⟨0, 10, 13, 21⟩ : ExceptionTableEntry)] (⟨0, 10, 17, 13⟩ : ExceptionTableEntry) [] (htab.trans rfl) (fun z hz => by
          have hz : z ∈ [(⟨0, 10, 13, 21⟩ : ExceptionTableEntry)] := hz
          rcases List.mem_cons.mp hz with rfl | hz
          · exact Or.inr ⟨by decide, xN 0, q1, hX.2.2.2.1 1 0 (by decide)⟩
          · exact absurd hz List.not_mem_nil) rfl (by decide) q2 (va_Nw.use rfl (hX.2.2.1 1)) hc9 hv9 hcl9 ?_
        refine W.eq (g2 := F0 m 17 ls [.ref q9]) rfl ?_
        refine lv_astore (lv' := [(4, .ref q9), (0, .ref p1), (1, .int p2), (2, .int p3), (3, .ref p4)]) hx hb dL_rows_17 hl (by decide) rfl (fun ls hl => ?_)
        refine lv_iconst (v := 2) hx hb dL_rows_19 (by decide) ?_
        exact vx_ret (xe_i hx hb hr hlocks hbase hh hK hX hS h (Nat.le_of_ble_eq_true rfl) (Nat.le_of_ble_eq_true rfl) dL_rows_20)
      · rw [xN_2 z0 z1] at hcl9
        have h := h.2.2 z0 z1
        exact h.elim
  refine lv_i2l hx hb dL_rows_8 rfl ?_
  obtain ⟨g4, h⟩ := h
  obtain ⟨g5, h⟩ := h
  refine xr_last hx hb hK hh g4 hS g5 dL_rows_9 (fun H locs hh hS => ?_)
  obtain ⟨m6, em6⟩ : ∃ z : MM, z = sAJ m3 p4 (va_up (mAJ m3 p4) (0 : Int32).toNatClampNeg r2.toInt64) := ⟨_, rfl⟩
  rw [← em6] at hh
  replace h := h m6 em6
  refine lv_goto (tgt := 21) hx hb dL_rows_10 (by decide) ?_
  refine lv_iconst (v := 0) hx hb dL_rows_21 (by decide) ?_
  exact vx_ret (xe_i hx hb hr hlocks hbase hh hK hX hS h (Nat.le_of_ble_eq_true rfl) (Nat.le_of_ble_eq_true rfl) dL_rows_22)

set_option maxHeartbeats 4000000 in
set_option maxRecDepth 100000 in
theorem mt_L_timeOf (l : Launch) (hl9 : l.stackTraces = false) (G : GG) (base : Nat) {p1 : Nat} {p2 : Int32} {p3 : Int32} {p4 : Int32} {p5 : Nat} {m0 : MM} {Q : Int32 → MM → Prop} (h : wp_L_timeOf p1 p2 p3 p4 p5 m0 Q) : vx_Met l yL_timeOf wsL_timeOf ({ frames := 8, cells := 3, slots := 18, locals := 143 }) (va_Pc [.ref p1, .int p2, .int p3, .int p4, .ref p5] (SP G base m0)) (va_Qi Q (HB G base) (xA base)) (xX G base (fun _ _ => False)) 3 18 (xA base) := by
  refine vx_ofWH (cc := cL_timeOf) (maxL := 6) (ret := (some .int)) (hh := [(0, 12, 15, 21), (0, 12, 19, 13), (0, 12, 23, 15)]) (by decide) rfl ?_
  intro p e s m args below meth c s₁ B hml hv
  obtain ⟨rfl, hbase, hh, hK, hX⟩ := hv
  have C0 : BC p s m _ meth c G base RL cL_timeOf 6 (some .int) wsL_timeOf := ⟨B.exec, B.bytes, B.returns, hml, findClass_of_methodNamed B.named, atoms_spec (ws := wsL_timeOf) B.pre, B.notSynchronized, hK, hbase, hX⟩
  obtain ⟨hx, hb, hr, -, hown, hts, hlocks, -, -, -⟩ := id C0
  have hS : va_S (xA base) s.heap s.heap [] := va_S.rf
  have hl := lv_entry ([.ref p1, .int p2, .int p3, .int p4, .ref p5]) (n := 6) (Nat.le_of_ble_eq_true rfl)
  rw [lg_entry_eq]
  generalize (lg_sl ([.ref p1, .int p2, .int p3, .int p4, .ref p5]) ++ List.replicate (6 - (lg_sl ([.ref p1, .int p2, .int p3, .int p4, .ref p5])).length) Slot.unset).toArray = ls at hl ⊢
  have hl : lv_has ls 6 [(0, .ref p1), (1, .int p2), (2, .int p3), (3, .int p4), (4, .ref p5)] := hl
  have htab : c.exceptionTable.toList = tableOf [(0, 12, 15, 21), (0, 12, 19, 13), (0, 12, 23, 15)] := vx_table (x := yL_law) B (hts _ List.mem_cons_self)
  unfold wp_L_timeOf at h
  have q1 : (Cond.classLink RL 21 "java/lang/IndexOutOfBoundsException").before _ s = true := hts _ (List.mem_cons_of_mem _ (List.mem_append_left _ (List.mem_append_left _ (List.mem_append_left _ (List.mem_append_left _ (List.mem_append_left _ (List.mem_append_left _ (List.mem_append_left _ (List.mem_append_left _ (List.mem_append_left _ (List.mem_of_getElem? (i := 0) rfl)))))))))))
  have q2 : (Cond.classLink RL 13 "java/lang/IllegalArgumentException").before _ s = true := hts _ (List.mem_cons_of_mem _ (List.mem_append_left _ (List.mem_append_left _ (List.mem_append_left _ (List.mem_append_left _ (List.mem_append_left _ (List.mem_append_left _ (List.mem_append_left _ (List.mem_append_left _ (List.mem_append_left _ (List.mem_of_getElem? (i := 1) rfl)))))))))))
  have q3 : (Cond.classLink RL 15 "java/lang/IllegalStateException").before _ s = true := hts _ (List.mem_cons_of_mem _ (List.mem_append_left _ (List.mem_append_left _ (List.mem_append_left _ (List.mem_append_left _ (List.mem_append_left _ (List.mem_append_left _ (List.mem_append_left _ (List.mem_append_left _ (List.mem_append_left _ (List.mem_of_getElem? (i := 2) rfl)))))))))))
  refine lv_aload hx hb dL_timeOf_0 (lv_at hl 4 rfl) ?_
  refine lv_iconst (v := 0) hx hb dL_timeOf_2 (by decide) ?_
  refine lv_aload_n hx hb dL_timeOf_3 rfl (lv_at hl 0 rfl) ?_
  refine lv_iload_n hx hb dL_timeOf_4 rfl (lv_at hl 1 rfl) ?_
  refine lv_iload_n hx hb dL_timeOf_5 rfl (lv_at hl 2 rfl) ?_
  refine lv_iload_n hx hb dL_timeOf_6 rfl (lv_at hl 3 rfl) ?_
  obtain ⟨g1, h⟩ := h
  refine xt_i (vx_runV (As := [.int p2, .int p3, .int p4]) (rest := [.int (0 : Int32), .ref p5]) ⟨hx, hb, hml, hown, hts⟩ (mt_X5_timeOf l hl9 G base h) (cwV 3 hts gL_timeOf_X5_timeOf rfl rfl rfl (by decide +kernel) ⟨Nat.le_of_ble_eq_true rfl, Nat.le_of_ble_eq_true rfl⟩) (xp_V hbase hh hK hX hS (ci := 5) g1 (by decide) rfl) rfl rfl hl.1 rfl (lv_room (Nat.le_of_ble_eq_true rfl)) dL_timeOf_7 ⟨Nat.le_of_ble_eq_true rfl, Nat.le_of_ble_eq_true rfl⟩) hS (fun k9 m9 H locs q9 ce h hh hS hc9 hv9 hcl9 => ?_) (fun r2 m3 H locs h hh hS => ?_)
  · by_cases z0 : k9 = 0
    · subst z0
      have h := h.1 rfl
      refine vx_catch (name := xN 0) hown [] (⟨0, 12, 15, 21⟩ : ExceptionTableEntry) [(⟨0, 12, 19, 13⟩ : ExceptionTableEntry), (⟨0, 12, 23, 15⟩ : ExceptionTableEntry)] (htab.trans rfl) (fun z hz => absurd hz List.not_mem_nil) rfl (by decide) q1 (va_Nw.use rfl (hX.2.2.1 0)) hc9 hv9 hcl9 ?_
      refine W.eq (g2 := F0 m 15 ls [.ref q9]) rfl ?_
      refine lv_astore (lv' := [(5, .ref q9), (0, .ref p1), (1, .int p2), (2, .int p3), (3, .int p4), (4, .ref p5)]) hx hb dL_timeOf_15 hl (by decide) rfl (fun ls hl => ?_)
      refine lv_iconst (v := 1) hx hb dL_timeOf_17 (by decide) ?_
      exact vx_ret (xe_i hx hb hr hlocks hbase hh hK hX hS h (Nat.le_of_ble_eq_true rfl) (Nat.le_of_ble_eq_true rfl) dL_timeOf_18)
    · by_cases z1 : k9 = 1
      · subst z1
        have h := h.2.1 rfl
        refine vx_catch (name := xN 1) hown [(⟨0, 12, 15, 21⟩ : ExceptionTableEntry)] (⟨0, 12, 19, 13⟩ : ExceptionTableEntry) [(⟨0, 12, 23, 15⟩ : ExceptionTableEntry)] (htab.trans rfl) (fun z hz => by
          have hz : z ∈ [(⟨0, 12, 15, 21⟩ : ExceptionTableEntry)] := hz
          rcases List.mem_cons.mp hz with rfl | hz
          · exact Or.inr ⟨by decide, xN 0, q1, hX.2.2.2.1 1 0 (by decide)⟩
          · exact absurd hz List.not_mem_nil) rfl (by decide) q2 (va_Nw.use rfl (hX.2.2.1 1)) hc9 hv9 hcl9 ?_
        refine W.eq (g2 := F0 m 19 ls [.ref q9]) rfl ?_
        refine lv_astore (lv' := [(5, .ref q9), (0, .ref p1), (1, .int p2), (2, .int p3), (3, .int p4), (4, .ref p5)]) hx hb dL_timeOf_19 hl (by decide) rfl (fun ls hl => ?_)
        refine lv_iconst (v := 2) hx hb dL_timeOf_21 (by decide) ?_
        exact vx_ret (xe_i hx hb hr hlocks hbase hh hK hX hS h (Nat.le_of_ble_eq_true rfl) (Nat.le_of_ble_eq_true rfl) dL_timeOf_22)
      · rw [xN_2 z0 z1] at hcl9
        have h := h.2.2 z0 z1
        refine vx_catch (name := xN 2) hown [(⟨0, 12, 15, 21⟩ : ExceptionTableEntry), (⟨0, 12, 19, 13⟩ : ExceptionTableEntry)] (⟨0, 12, 23, 15⟩ : ExceptionTableEntry) [] (htab.trans rfl) (fun z hz => by
          have hz : z ∈ [(⟨0, 12, 15, 21⟩ : ExceptionTableEntry), (⟨0, 12, 19, 13⟩ : ExceptionTableEntry)] := hz
          rcases List.mem_cons.mp hz with rfl | hz
          · exact Or.inr ⟨by decide, xN 0, q1, hX.2.2.2.1 2 0 (by decide)⟩
          · rcases List.mem_cons.mp hz with rfl | hz
            · exact Or.inr ⟨by decide, xN 1, q2, hX.2.2.2.1 2 1 (by decide)⟩
            · exact absurd hz List.not_mem_nil) rfl (by decide) q3 (va_Nw.use rfl (hX.2.2.1 2)) hc9 hv9 hcl9 ?_
        refine W.eq (g2 := F0 m 23 ls [.ref q9]) rfl ?_
        refine lv_astore (lv' := [(5, .ref q9), (0, .ref p1), (1, .int p2), (2, .int p3), (3, .int p4), (4, .ref p5)]) hx hb dL_timeOf_23 hl (by decide) rfl (fun ls hl => ?_)
        refine lv_iconst (v := 3) hx hb dL_timeOf_25 (by decide) ?_
        exact vx_ret (xe_i hx hb hr hlocks hbase hh hK hX hS h (Nat.le_of_ble_eq_true rfl) (Nat.le_of_ble_eq_true rfl) dL_timeOf_26)
  refine lv_i2l hx hb dL_timeOf_10 rfl ?_
  obtain ⟨g4, h⟩ := h
  obtain ⟨g5, h⟩ := h
  refine xr_last hx hb hK hh g4 hS g5 dL_timeOf_11 (fun H locs hh hS => ?_)
  obtain ⟨m6, em6⟩ : ∃ z : MM, z = sAJ m3 p5 (va_up (mAJ m3 p5) (0 : Int32).toNatClampNeg r2.toInt64) := ⟨_, rfl⟩
  rw [← em6] at hh
  replace h := h m6 em6
  refine lv_goto (tgt := 27) hx hb dL_timeOf_12 (by decide) ?_
  refine lv_iconst (v := 0) hx hb dL_timeOf_27 (by decide) ?_
  exact vx_ret (xe_i hx hb hr hlocks hbase hh hK hX hS h (Nat.le_of_ble_eq_true rfl) (Nat.le_of_ble_eq_true rfl) dL_timeOf_28)

set_option maxHeartbeats 4000000 in
set_option maxRecDepth 100000 in
theorem mt_L_valueAt (l : Launch) (hl9 : l.stackTraces = false) (G : GG) (base : Nat) {p1 : Nat} {p2 : Int32} {p3 : Int32} {p4 : Nat} {m0 : MM} {Q : Int32 → MM → Prop} (h : wp_L_valueAt p1 p2 p3 p4 m0 Q) : vx_Met l yL_valueAt wsL_valueAt ({ frames := 8, cells := 2, slots := 12, locals := 141 }) (va_Pc [.ref p1, .int p2, .int p3, .ref p4] (SP G base m0)) (va_Qi Q (HB G base) (xA base)) (xX G base (fun _ _ => False)) 2 12 (xA base) := by
  refine vx_ofWH (cc := cL_valueAt) (maxL := 5) (ret := (some .int)) (hh := [(0, 10, 13, 21), (0, 10, 17, 15)]) (by decide) rfl ?_
  intro p e s m args below meth c s₁ B hml hv
  obtain ⟨rfl, hbase, hh, hK, hX⟩ := hv
  have C0 : BC p s m _ meth c G base RL cL_valueAt 5 (some .int) wsL_valueAt := ⟨B.exec, B.bytes, B.returns, hml, findClass_of_methodNamed B.named, atoms_spec (ws := wsL_valueAt) B.pre, B.notSynchronized, hK, hbase, hX⟩
  obtain ⟨hx, hb, hr, -, hown, hts, hlocks, -, -, -⟩ := id C0
  have hS : va_S (xA base) s.heap s.heap [] := va_S.rf
  have hl := lv_entry ([.ref p1, .int p2, .int p3, .ref p4]) (n := 5) (Nat.le_of_ble_eq_true rfl)
  rw [lg_entry_eq]
  generalize (lg_sl ([.ref p1, .int p2, .int p3, .ref p4]) ++ List.replicate (5 - (lg_sl ([.ref p1, .int p2, .int p3, .ref p4])).length) Slot.unset).toArray = ls at hl ⊢
  have hl : lv_has ls 5 [(0, .ref p1), (1, .int p2), (2, .int p3), (3, .ref p4)] := hl
  have htab : c.exceptionTable.toList = tableOf [(0, 10, 13, 21), (0, 10, 17, 15)] := vx_table (x := yL_law) B (hts _ List.mem_cons_self)
  unfold wp_L_valueAt at h
  have q1 : (Cond.classLink RL 21 "java/lang/IndexOutOfBoundsException").before _ s = true := hts _ (List.mem_cons_of_mem _ (List.mem_append_left _ (List.mem_append_left _ (List.mem_append_left _ (List.mem_append_left _ (List.mem_append_left _ (List.mem_append_left _ (List.mem_of_getElem? (i := 0) rfl))))))))
  have q2 : (Cond.classLink RL 15 "java/lang/IllegalStateException").before _ s = true := hts _ (List.mem_cons_of_mem _ (List.mem_append_left _ (List.mem_append_left _ (List.mem_append_left _ (List.mem_append_left _ (List.mem_append_left _ (List.mem_append_left _ (List.mem_of_getElem? (i := 1) rfl))))))))
  refine lv_aload_n hx hb dL_valueAt_0 rfl (lv_at hl 3 rfl) ?_
  refine lv_iconst (v := 0) hx hb dL_valueAt_1 (by decide) ?_
  refine lv_aload_n hx hb dL_valueAt_2 rfl (lv_at hl 0 rfl) ?_
  refine lv_iload_n hx hb dL_valueAt_3 rfl (lv_at hl 1 rfl) ?_
  refine lv_iload_n hx hb dL_valueAt_4 rfl (lv_at hl 2 rfl) ?_
  obtain ⟨g1, h⟩ := h
  refine xt_i (vx_runV (As := [.int p2, .int p3]) (rest := [.int (0 : Int32), .ref p4]) ⟨hx, hb, hml, hown, hts⟩ (mt_X5_valueAt l hl9 G base h) (cwV 2 hts gL_valueAt_X5_valueAt rfl rfl rfl (by decide +kernel) ⟨Nat.le_of_ble_eq_true rfl, Nat.le_of_ble_eq_true rfl⟩) (xp_V hbase hh hK hX hS (ci := 5) g1 (by decide) rfl) rfl rfl hl.1 rfl (lv_room (Nat.le_of_ble_eq_true rfl)) dL_valueAt_5 ⟨Nat.le_of_ble_eq_true rfl, Nat.le_of_ble_eq_true rfl⟩) hS (fun k9 m9 H locs q9 ce h hh hS hc9 hv9 hcl9 => ?_) (fun r2 m3 H locs h hh hS => ?_)
  · by_cases z0 : k9 = 0
    · subst z0
      have h := h.1 rfl
      refine vx_catch (name := xN 0) hown [] (⟨0, 10, 13, 21⟩ : ExceptionTableEntry) [(⟨0, 10, 17, 15⟩ : ExceptionTableEntry)] (htab.trans rfl) (fun z hz => absurd hz List.not_mem_nil) rfl (by decide) q1 (va_Nw.use rfl (hX.2.2.1 0)) hc9 hv9 hcl9 ?_
      refine W.eq (g2 := F0 m 13 ls [.ref q9]) rfl ?_
      refine lv_astore (lv' := [(4, .ref q9), (0, .ref p1), (1, .int p2), (2, .int p3), (3, .ref p4)]) hx hb dL_valueAt_13 hl (by decide) rfl (fun ls hl => ?_)
      refine lv_iconst (v := 1) hx hb dL_valueAt_15 (by decide) ?_
      exact vx_ret (xe_i hx hb hr hlocks hbase hh hK hX hS h (Nat.le_of_ble_eq_true rfl) (Nat.le_of_ble_eq_true rfl) dL_valueAt_16)
    · by_cases z1 : k9 = 1
      · subst z1
        have h := h.2.1 rfl
        exact h.elim
      · rw [xN_2 z0 z1] at hcl9
        have h := h.2.2 z0 z1
        refine vx_catch (name := xN 2) hown [(⟨0, 10, 13, 21⟩ : ExceptionTableEntry)] (⟨0, 10, 17, 15⟩ : ExceptionTableEntry) [] (htab.trans rfl) (fun z hz => by
          have hz : z ∈ [(⟨0, 10, 13, 21⟩ : ExceptionTableEntry)] := hz
          rcases List.mem_cons.mp hz with rfl | hz
          · exact Or.inr ⟨by decide, xN 0, q1, hX.2.2.2.1 2 0 (by decide)⟩
          · exact absurd hz List.not_mem_nil) rfl (by decide) q2 (va_Nw.use rfl (hX.2.2.1 2)) hc9 hv9 hcl9 ?_
        refine W.eq (g2 := F0 m 17 ls [.ref q9]) rfl ?_
        refine lv_astore (lv' := [(4, .ref q9), (0, .ref p1), (1, .int p2), (2, .int p3), (3, .ref p4)]) hx hb dL_valueAt_17 hl (by decide) rfl (fun ls hl => ?_)
        refine lv_iconst (v := 2) hx hb dL_valueAt_19 (by decide) ?_
        exact vx_ret (xe_i hx hb hr hlocks hbase hh hK hX hS h (Nat.le_of_ble_eq_true rfl) (Nat.le_of_ble_eq_true rfl) dL_valueAt_20)
  refine lv_i2l hx hb dL_valueAt_8 rfl ?_
  obtain ⟨g4, h⟩ := h
  obtain ⟨g5, h⟩ := h
  refine xr_last hx hb hK hh g4 hS g5 dL_valueAt_9 (fun H locs hh hS => ?_)
  obtain ⟨m6, em6⟩ : ∃ z : MM, z = sAJ m3 p4 (va_up (mAJ m3 p4) (0 : Int32).toNatClampNeg r2.toInt64) := ⟨_, rfl⟩
  rw [← em6] at hh
  replace h := h m6 em6
  refine lv_goto (tgt := 21) hx hb dL_valueAt_10 (by decide) ?_
  refine lv_iconst (v := 0) hx hb dL_valueAt_21 (by decide) ?_
  exact vx_ret (xe_i hx hb hr hlocks hbase hh hK hX hS h (Nat.le_of_ble_eq_true rfl) (Nat.le_of_ble_eq_true rfl) dL_valueAt_22)

set_option maxHeartbeats 4000000 in
set_option maxRecDepth 100000 in
theorem mt_L_sum (l : Launch) (hl9 : l.stackTraces = false) (G : GG) (base : Nat) {p1 : Nat} {p2 : Int32} {p3 : Int32} {p4 : Int32} {p5 : Nat} {m0 : MM} {Q : Int32 → MM → Prop} (h : wp_L_sum p1 p2 p3 p4 p5 m0 Q) : vx_Met l yL_sum wsL_sum ({ frames := 11, cells := 4, slots := 24, locals := 212 }) (va_Pc [.ref p1, .int p2, .int p3, .int p4, .ref p5] (SP G base m0)) (va_Qi Q (HB G base) (xA base)) (xX G base (fun _ _ => False)) 4 24 (xA base) := by
  refine vx_ofWH (cc := cL_sum) (maxL := 6) (ret := (some .int)) (hh := [(0, 11, 14, 21), (0, 11, 18, 13), (0, 11, 22, 15)]) (by decide) rfl ?_
  intro p e s m args below meth c s₁ B hml hv
  obtain ⟨rfl, hbase, hh, hK, hX⟩ := hv
  have C0 : BC p s m _ meth c G base RL cL_sum 6 (some .int) wsL_sum := ⟨B.exec, B.bytes, B.returns, hml, findClass_of_methodNamed B.named, atoms_spec (ws := wsL_sum) B.pre, B.notSynchronized, hK, hbase, hX⟩
  obtain ⟨hx, hb, hr, -, hown, hts, hlocks, -, -, -⟩ := id C0
  have hS : va_S (xA base) s.heap s.heap [] := va_S.rf
  have hl := lv_entry ([.ref p1, .int p2, .int p3, .int p4, .ref p5]) (n := 6) (Nat.le_of_ble_eq_true rfl)
  rw [lg_entry_eq]
  generalize (lg_sl ([.ref p1, .int p2, .int p3, .int p4, .ref p5]) ++ List.replicate (6 - (lg_sl ([.ref p1, .int p2, .int p3, .int p4, .ref p5])).length) Slot.unset).toArray = ls at hl ⊢
  have hl : lv_has ls 6 [(0, .ref p1), (1, .int p2), (2, .int p3), (3, .int p4), (4, .ref p5)] := hl
  have htab : c.exceptionTable.toList = tableOf [(0, 11, 14, 21), (0, 11, 18, 13), (0, 11, 22, 15)] := vx_table (x := yL_law) B (hts _ List.mem_cons_self)
  unfold wp_L_sum at h
  have q1 : (Cond.classLink RL 21 "java/lang/IndexOutOfBoundsException").before _ s = true := hts _ (List.mem_cons_of_mem _ (List.mem_append_left _ (List.mem_append_left _ (List.mem_append_left _ (List.mem_append_left _ (List.mem_append_left _ (List.mem_append_left _ (List.mem_append_left _ (List.mem_append_left _ (List.mem_of_getElem? (i := 0) rfl))))))))))
  have q2 : (Cond.classLink RL 13 "java/lang/IllegalArgumentException").before _ s = true := hts _ (List.mem_cons_of_mem _ (List.mem_append_left _ (List.mem_append_left _ (List.mem_append_left _ (List.mem_append_left _ (List.mem_append_left _ (List.mem_append_left _ (List.mem_append_left _ (List.mem_append_left _ (List.mem_of_getElem? (i := 1) rfl))))))))))
  have q3 : (Cond.classLink RL 15 "java/lang/IllegalStateException").before _ s = true := hts _ (List.mem_cons_of_mem _ (List.mem_append_left _ (List.mem_append_left _ (List.mem_append_left _ (List.mem_append_left _ (List.mem_append_left _ (List.mem_append_left _ (List.mem_append_left _ (List.mem_append_left _ (List.mem_of_getElem? (i := 2) rfl))))))))))
  refine lv_aload hx hb dL_sum_0 (lv_at hl 4 rfl) ?_
  refine lv_iconst (v := 0) hx hb dL_sum_2 (by decide) ?_
  refine lv_aload_n hx hb dL_sum_3 rfl (lv_at hl 0 rfl) ?_
  refine lv_iload_n hx hb dL_sum_4 rfl (lv_at hl 1 rfl) ?_
  refine lv_iload_n hx hb dL_sum_5 rfl (lv_at hl 2 rfl) ?_
  refine lv_iload_n hx hb dL_sum_6 rfl (lv_at hl 3 rfl) ?_
  obtain ⟨g1, h⟩ := h
  refine xt_l (vx_runV (As := [.int p2, .int p3, .int p4]) (rest := [.int (0 : Int32), .ref p5]) ⟨hx, hb, hml, hown, hts⟩ (mt_X5_sum l hl9 G base h) (cwV 3 hts gL_sum_X5_sum rfl rfl rfl (by decide +kernel) ⟨Nat.le_of_ble_eq_true rfl, Nat.le_of_ble_eq_true rfl⟩) (xp_V hbase hh hK hX hS (ci := 5) g1 (by decide) rfl) rfl rfl hl.1 rfl (lv_room (Nat.le_of_ble_eq_true rfl)) dL_sum_7 ⟨Nat.le_of_ble_eq_true rfl, Nat.le_of_ble_eq_true rfl⟩) hS (fun k9 m9 H locs q9 ce h hh hS hc9 hv9 hcl9 => ?_) (fun r2 m3 H locs h hh hS => ?_)
  · by_cases z0 : k9 = 0
    · subst z0
      have h := h.1 rfl
      refine vx_catch (name := xN 0) hown [] (⟨0, 11, 14, 21⟩ : ExceptionTableEntry) [(⟨0, 11, 18, 13⟩ : ExceptionTableEntry), (⟨0, 11, 22, 15⟩ : ExceptionTableEntry)] (htab.trans rfl) (fun z hz => absurd hz List.not_mem_nil) rfl (by decide) q1 (va_Nw.use rfl (hX.2.2.1 0)) hc9 hv9 hcl9 ?_
      refine W.eq (g2 := F0 m 14 ls [.ref q9]) rfl ?_
      refine lv_astore (lv' := [(5, .ref q9), (0, .ref p1), (1, .int p2), (2, .int p3), (3, .int p4), (4, .ref p5)]) hx hb dL_sum_14 hl (by decide) rfl (fun ls hl => ?_)
      refine lv_iconst (v := 1) hx hb dL_sum_16 (by decide) ?_
      exact vx_ret (xe_i hx hb hr hlocks hbase hh hK hX hS h (Nat.le_of_ble_eq_true rfl) (Nat.le_of_ble_eq_true rfl) dL_sum_17)
    · by_cases z1 : k9 = 1
      · subst z1
        have h := h.2.1 rfl
        refine vx_catch (name := xN 1) hown [(⟨0, 11, 14, 21⟩ : ExceptionTableEntry)] (⟨0, 11, 18, 13⟩ : ExceptionTableEntry) [(⟨0, 11, 22, 15⟩ : ExceptionTableEntry)] (htab.trans rfl) (fun z hz => by
          have hz : z ∈ [(⟨0, 11, 14, 21⟩ : ExceptionTableEntry)] := hz
          rcases List.mem_cons.mp hz with rfl | hz
          · exact Or.inr ⟨by decide, xN 0, q1, hX.2.2.2.1 1 0 (by decide)⟩
          · exact absurd hz List.not_mem_nil) rfl (by decide) q2 (va_Nw.use rfl (hX.2.2.1 1)) hc9 hv9 hcl9 ?_
        refine W.eq (g2 := F0 m 18 ls [.ref q9]) rfl ?_
        refine lv_astore (lv' := [(5, .ref q9), (0, .ref p1), (1, .int p2), (2, .int p3), (3, .int p4), (4, .ref p5)]) hx hb dL_sum_18 hl (by decide) rfl (fun ls hl => ?_)
        refine lv_iconst (v := 2) hx hb dL_sum_20 (by decide) ?_
        exact vx_ret (xe_i hx hb hr hlocks hbase hh hK hX hS h (Nat.le_of_ble_eq_true rfl) (Nat.le_of_ble_eq_true rfl) dL_sum_21)
      · rw [xN_2 z0 z1] at hcl9
        have h := h.2.2 z0 z1
        refine vx_catch (name := xN 2) hown [(⟨0, 11, 14, 21⟩ : ExceptionTableEntry), (⟨0, 11, 18, 13⟩ : ExceptionTableEntry)] (⟨0, 11, 22, 15⟩ : ExceptionTableEntry) [] (htab.trans rfl) (fun z hz => by
          have hz : z ∈ [(⟨0, 11, 14, 21⟩ : ExceptionTableEntry), (⟨0, 11, 18, 13⟩ : ExceptionTableEntry)] := hz
          rcases List.mem_cons.mp hz with rfl | hz
          · exact Or.inr ⟨by decide, xN 0, q1, hX.2.2.2.1 2 0 (by decide)⟩
          · rcases List.mem_cons.mp hz with rfl | hz
            · exact Or.inr ⟨by decide, xN 1, q2, hX.2.2.2.1 2 1 (by decide)⟩
            · exact absurd hz List.not_mem_nil) rfl (by decide) q3 (va_Nw.use rfl (hX.2.2.1 2)) hc9 hv9 hcl9 ?_
        refine W.eq (g2 := F0 m 22 ls [.ref q9]) rfl ?_
        refine lv_astore (lv' := [(5, .ref q9), (0, .ref p1), (1, .int p2), (2, .int p3), (3, .int p4), (4, .ref p5)]) hx hb dL_sum_22 hl (by decide) rfl (fun ls hl => ?_)
        refine lv_iconst (v := 3) hx hb dL_sum_24 (by decide) ?_
        exact vx_ret (xe_i hx hb hr hlocks hbase hh hK hX hS h (Nat.le_of_ble_eq_true rfl) (Nat.le_of_ble_eq_true rfl) dL_sum_25)
  obtain ⟨g4, h⟩ := h
  obtain ⟨g5, h⟩ := h
  refine xr_last hx hb hK hh g4 hS g5 dL_sum_10 (fun H locs hh hS => ?_)
  obtain ⟨m6, em6⟩ : ∃ z : MM, z = sAJ m3 p5 (va_up (mAJ m3 p5) (0 : Int32).toNatClampNeg r2) := ⟨_, rfl⟩
  rw [← em6] at hh
  replace h := h m6 em6
  refine lv_goto (tgt := 26) hx hb dL_sum_11 (by decide) ?_
  refine lv_iconst (v := 0) hx hb dL_sum_26 (by decide) ?_
  exact vx_ret (xe_i hx hb hr hlocks hbase hh hK hX hS h (Nat.le_of_ble_eq_true rfl) (Nat.le_of_ble_eq_true rfl) dL_sum_27)

set_option maxHeartbeats 4000000 in
set_option maxRecDepth 100000 in
theorem mt_L_least (l : Launch) (hl9 : l.stackTraces = false) (G : GG) (base : Nat) {p1 : Nat} {p2 : Int32} {p3 : Int32} {p4 : Int32} {p5 : Nat} {m0 : MM} {Q : Int32 → MM → Prop} (h : wp_L_least p1 p2 p3 p4 p5 m0 Q) : vx_Met l yL_least wsL_least ({ frames := 11, cells := 4, slots := 24, locals := 212 }) (va_Pc [.ref p1, .int p2, .int p3, .int p4, .ref p5] (SP G base m0)) (va_Qi Q (HB G base) (xA base)) (xX G base (fun _ _ => False)) 4 24 (xA base) := by
  refine vx_ofWH (cc := cL_least) (maxL := 6) (ret := (some .int)) (hh := [(0, 12, 15, 21), (0, 12, 19, 13), (0, 12, 23, 15)]) (by decide) rfl ?_
  intro p e s m args below meth c s₁ B hml hv
  obtain ⟨rfl, hbase, hh, hK, hX⟩ := hv
  have C0 : BC p s m _ meth c G base RL cL_least 6 (some .int) wsL_least := ⟨B.exec, B.bytes, B.returns, hml, findClass_of_methodNamed B.named, atoms_spec (ws := wsL_least) B.pre, B.notSynchronized, hK, hbase, hX⟩
  obtain ⟨hx, hb, hr, -, hown, hts, hlocks, -, -, -⟩ := id C0
  have hS : va_S (xA base) s.heap s.heap [] := va_S.rf
  have hl := lv_entry ([.ref p1, .int p2, .int p3, .int p4, .ref p5]) (n := 6) (Nat.le_of_ble_eq_true rfl)
  rw [lg_entry_eq]
  generalize (lg_sl ([.ref p1, .int p2, .int p3, .int p4, .ref p5]) ++ List.replicate (6 - (lg_sl ([.ref p1, .int p2, .int p3, .int p4, .ref p5])).length) Slot.unset).toArray = ls at hl ⊢
  have hl : lv_has ls 6 [(0, .ref p1), (1, .int p2), (2, .int p3), (3, .int p4), (4, .ref p5)] := hl
  have htab : c.exceptionTable.toList = tableOf [(0, 12, 15, 21), (0, 12, 19, 13), (0, 12, 23, 15)] := vx_table (x := yL_law) B (hts _ List.mem_cons_self)
  unfold wp_L_least at h
  have q1 : (Cond.classLink RL 21 "java/lang/IndexOutOfBoundsException").before _ s = true := hts _ (List.mem_cons_of_mem _ (List.mem_append_left _ (List.mem_append_left _ (List.mem_append_left _ (List.mem_append_left _ (List.mem_append_left _ (List.mem_append_left _ (List.mem_append_left _ (List.mem_append_left _ (List.mem_of_getElem? (i := 0) rfl))))))))))
  have q2 : (Cond.classLink RL 13 "java/lang/IllegalArgumentException").before _ s = true := hts _ (List.mem_cons_of_mem _ (List.mem_append_left _ (List.mem_append_left _ (List.mem_append_left _ (List.mem_append_left _ (List.mem_append_left _ (List.mem_append_left _ (List.mem_append_left _ (List.mem_append_left _ (List.mem_of_getElem? (i := 1) rfl))))))))))
  have q3 : (Cond.classLink RL 15 "java/lang/IllegalStateException").before _ s = true := hts _ (List.mem_cons_of_mem _ (List.mem_append_left _ (List.mem_append_left _ (List.mem_append_left _ (List.mem_append_left _ (List.mem_append_left _ (List.mem_append_left _ (List.mem_append_left _ (List.mem_append_left _ (List.mem_of_getElem? (i := 2) rfl))))))))))
  refine lv_aload hx hb dL_least_0 (lv_at hl 4 rfl) ?_
  refine lv_iconst (v := 0) hx hb dL_least_2 (by decide) ?_
  refine lv_aload_n hx hb dL_least_3 rfl (lv_at hl 0 rfl) ?_
  refine lv_iload_n hx hb dL_least_4 rfl (lv_at hl 1 rfl) ?_
  refine lv_iload_n hx hb dL_least_5 rfl (lv_at hl 2 rfl) ?_
  refine lv_iload_n hx hb dL_least_6 rfl (lv_at hl 3 rfl) ?_
  obtain ⟨g1, h⟩ := h
  refine xt_i (vx_runV (As := [.int p2, .int p3, .int p4]) (rest := [.int (0 : Int32), .ref p5]) ⟨hx, hb, hml, hown, hts⟩ (mt_X5_least l hl9 G base h) (cwV 3 hts gL_least_X5_least rfl rfl rfl (by decide +kernel) ⟨Nat.le_of_ble_eq_true rfl, Nat.le_of_ble_eq_true rfl⟩) (xp_V hbase hh hK hX hS (ci := 5) g1 (by decide) rfl) rfl rfl hl.1 rfl (lv_room (Nat.le_of_ble_eq_true rfl)) dL_least_7 ⟨Nat.le_of_ble_eq_true rfl, Nat.le_of_ble_eq_true rfl⟩) hS (fun k9 m9 H locs q9 ce h hh hS hc9 hv9 hcl9 => ?_) (fun r2 m3 H locs h hh hS => ?_)
  · by_cases z0 : k9 = 0
    · subst z0
      have h := h.1 rfl
      refine vx_catch (name := xN 0) hown [] (⟨0, 12, 15, 21⟩ : ExceptionTableEntry) [(⟨0, 12, 19, 13⟩ : ExceptionTableEntry), (⟨0, 12, 23, 15⟩ : ExceptionTableEntry)] (htab.trans rfl) (fun z hz => absurd hz List.not_mem_nil) rfl (by decide) q1 (va_Nw.use rfl (hX.2.2.1 0)) hc9 hv9 hcl9 ?_
      refine W.eq (g2 := F0 m 15 ls [.ref q9]) rfl ?_
      refine lv_astore (lv' := [(5, .ref q9), (0, .ref p1), (1, .int p2), (2, .int p3), (3, .int p4), (4, .ref p5)]) hx hb dL_least_15 hl (by decide) rfl (fun ls hl => ?_)
      refine lv_iconst (v := 1) hx hb dL_least_17 (by decide) ?_
      exact vx_ret (xe_i hx hb hr hlocks hbase hh hK hX hS h (Nat.le_of_ble_eq_true rfl) (Nat.le_of_ble_eq_true rfl) dL_least_18)
    · by_cases z1 : k9 = 1
      · subst z1
        have h := h.2.1 rfl
        refine vx_catch (name := xN 1) hown [(⟨0, 12, 15, 21⟩ : ExceptionTableEntry)] (⟨0, 12, 19, 13⟩ : ExceptionTableEntry) [(⟨0, 12, 23, 15⟩ : ExceptionTableEntry)] (htab.trans rfl) (fun z hz => by
          have hz : z ∈ [(⟨0, 12, 15, 21⟩ : ExceptionTableEntry)] := hz
          rcases List.mem_cons.mp hz with rfl | hz
          · exact Or.inr ⟨by decide, xN 0, q1, hX.2.2.2.1 1 0 (by decide)⟩
          · exact absurd hz List.not_mem_nil) rfl (by decide) q2 (va_Nw.use rfl (hX.2.2.1 1)) hc9 hv9 hcl9 ?_
        refine W.eq (g2 := F0 m 19 ls [.ref q9]) rfl ?_
        refine lv_astore (lv' := [(5, .ref q9), (0, .ref p1), (1, .int p2), (2, .int p3), (3, .int p4), (4, .ref p5)]) hx hb dL_least_19 hl (by decide) rfl (fun ls hl => ?_)
        refine lv_iconst (v := 2) hx hb dL_least_21 (by decide) ?_
        exact vx_ret (xe_i hx hb hr hlocks hbase hh hK hX hS h (Nat.le_of_ble_eq_true rfl) (Nat.le_of_ble_eq_true rfl) dL_least_22)
      · rw [xN_2 z0 z1] at hcl9
        have h := h.2.2 z0 z1
        refine vx_catch (name := xN 2) hown [(⟨0, 12, 15, 21⟩ : ExceptionTableEntry), (⟨0, 12, 19, 13⟩ : ExceptionTableEntry)] (⟨0, 12, 23, 15⟩ : ExceptionTableEntry) [] (htab.trans rfl) (fun z hz => by
          have hz : z ∈ [(⟨0, 12, 15, 21⟩ : ExceptionTableEntry), (⟨0, 12, 19, 13⟩ : ExceptionTableEntry)] := hz
          rcases List.mem_cons.mp hz with rfl | hz
          · exact Or.inr ⟨by decide, xN 0, q1, hX.2.2.2.1 2 0 (by decide)⟩
          · rcases List.mem_cons.mp hz with rfl | hz
            · exact Or.inr ⟨by decide, xN 1, q2, hX.2.2.2.1 2 1 (by decide)⟩
            · exact absurd hz List.not_mem_nil) rfl (by decide) q3 (va_Nw.use rfl (hX.2.2.1 2)) hc9 hv9 hcl9 ?_
        refine W.eq (g2 := F0 m 23 ls [.ref q9]) rfl ?_
        refine lv_astore (lv' := [(5, .ref q9), (0, .ref p1), (1, .int p2), (2, .int p3), (3, .int p4), (4, .ref p5)]) hx hb dL_least_23 hl (by decide) rfl (fun ls hl => ?_)
        refine lv_iconst (v := 3) hx hb dL_least_25 (by decide) ?_
        exact vx_ret (xe_i hx hb hr hlocks hbase hh hK hX hS h (Nat.le_of_ble_eq_true rfl) (Nat.le_of_ble_eq_true rfl) dL_least_26)
  refine lv_i2l hx hb dL_least_10 rfl ?_
  obtain ⟨g4, h⟩ := h
  obtain ⟨g5, h⟩ := h
  refine xr_last hx hb hK hh g4 hS g5 dL_least_11 (fun H locs hh hS => ?_)
  obtain ⟨m6, em6⟩ : ∃ z : MM, z = sAJ m3 p5 (va_up (mAJ m3 p5) (0 : Int32).toNatClampNeg r2.toInt64) := ⟨_, rfl⟩
  rw [← em6] at hh
  replace h := h m6 em6
  refine lv_goto (tgt := 27) hx hb dL_least_12 (by decide) ?_
  refine lv_iconst (v := 0) hx hb dL_least_27 (by decide) ?_
  exact vx_ret (xe_i hx hb hr hlocks hbase hh hK hX hS h (Nat.le_of_ble_eq_true rfl) (Nat.le_of_ble_eq_true rfl) dL_least_28)

set_option maxHeartbeats 4000000 in
set_option maxRecDepth 100000 in
theorem mt_L_parts (l : Launch) (hl9 : l.stackTraces = false) (G : GG) (base : Nat) {p1 : Nat} {p2 : Int32} {p3 : Int32} {p4 : Nat} {m0 : MM} {Q : Int32 → MM → Prop} (h : wp_L_parts p1 p2 p3 p4 m0 Q) : vx_Met l yL_parts wsL_parts ({ frames := 8, cells := 1, slots := 6, locals := 140 }) (va_Pc [.ref p1, .int p2, .int p3, .ref p4] (SP G base m0)) (va_Qi Q (HB G base) (xA base)) (xX G base (fun _ _ => False)) 1 6 (xA base) := by
  refine vx_ofWH (cc := cL_parts) (maxL := 5) (ret := (some .int)) (hh := [(0, 10, 13, 13)]) (by decide) rfl ?_
  intro p e s m args below meth c s₁ B hml hv
  obtain ⟨rfl, hbase, hh, hK, hX⟩ := hv
  have C0 : BC p s m _ meth c G base RL cL_parts 5 (some .int) wsL_parts := ⟨B.exec, B.bytes, B.returns, hml, findClass_of_methodNamed B.named, atoms_spec (ws := wsL_parts) B.pre, B.notSynchronized, hK, hbase, hX⟩
  obtain ⟨hx, hb, hr, -, hown, hts, hlocks, -, -, -⟩ := id C0
  have hS : va_S (xA base) s.heap s.heap [] := va_S.rf
  have hl := lv_entry ([.ref p1, .int p2, .int p3, .ref p4]) (n := 5) (Nat.le_of_ble_eq_true rfl)
  rw [lg_entry_eq]
  generalize (lg_sl ([.ref p1, .int p2, .int p3, .ref p4]) ++ List.replicate (5 - (lg_sl ([.ref p1, .int p2, .int p3, .ref p4])).length) Slot.unset).toArray = ls at hl ⊢
  have hl : lv_has ls 5 [(0, .ref p1), (1, .int p2), (2, .int p3), (3, .ref p4)] := hl
  have htab : c.exceptionTable.toList = tableOf [(0, 10, 13, 13)] := vx_table (x := yL_law) B (hts _ List.mem_cons_self)
  unfold wp_L_parts at h
  have q1 : (Cond.classLink RL 13 "java/lang/IllegalArgumentException").before _ s = true := hts _ (List.mem_cons_of_mem _ (List.mem_append_left _ (List.mem_append_left _ (List.mem_append_left _ (List.mem_append_left _ (List.mem_of_getElem? (i := 0) rfl))))))
  refine lv_aload_n hx hb dL_parts_0 rfl (lv_at hl 3 rfl) ?_
  refine lv_iconst (v := 0) hx hb dL_parts_1 (by decide) ?_
  refine lv_aload_n hx hb dL_parts_2 rfl (lv_at hl 0 rfl) ?_
  refine lv_iload_n hx hb dL_parts_3 rfl (lv_at hl 1 rfl) ?_
  refine lv_iload_n hx hb dL_parts_4 rfl (lv_at hl 2 rfl) ?_
  obtain ⟨g1, h⟩ := h
  refine xt_i (vx_runV (As := [.int p2, .int p3]) (rest := [.int (0 : Int32), .ref p4]) ⟨hx, hb, hml, hown, hts⟩ (mt_X5_parts l hl9 G base h) (cwV 2 hts gL_parts_X5_parts rfl rfl rfl (by decide +kernel) ⟨Nat.le_of_ble_eq_true rfl, Nat.le_of_ble_eq_true rfl⟩) (xp_V hbase hh hK hX hS (ci := 5) g1 (by decide) rfl) rfl rfl hl.1 rfl (lv_room (Nat.le_of_ble_eq_true rfl)) dL_parts_5 ⟨Nat.le_of_ble_eq_true rfl, Nat.le_of_ble_eq_true rfl⟩) hS (fun k9 m9 H locs q9 ce h hh hS hc9 hv9 hcl9 => ?_) (fun r2 m3 H locs h hh hS => ?_)
  · by_cases z0 : k9 = 0
    · subst z0
      have h := h.1 rfl
      exact h.elim
    · by_cases z1 : k9 = 1
      · subst z1
        have h := h.2.1 rfl
        refine vx_catch (name := xN 1) hown [] (⟨0, 10, 13, 13⟩ : ExceptionTableEntry) [] (htab.trans rfl) (fun z hz => absurd hz List.not_mem_nil) rfl (by decide) q1 (va_Nw.use rfl (hX.2.2.1 1)) hc9 hv9 hcl9 ?_
        refine W.eq (g2 := F0 m 13 ls [.ref q9]) rfl ?_
        refine lv_astore (lv' := [(4, .ref q9), (0, .ref p1), (1, .int p2), (2, .int p3), (3, .ref p4)]) hx hb dL_parts_13 hl (by decide) rfl (fun ls hl => ?_)
        refine lv_iconst (v := 1) hx hb dL_parts_15 (by decide) ?_
        exact vx_ret (xe_i hx hb hr hlocks hbase hh hK hX hS h (Nat.le_of_ble_eq_true rfl) (Nat.le_of_ble_eq_true rfl) dL_parts_16)
      · rw [xN_2 z0 z1] at hcl9
        have h := h.2.2 z0 z1
        exact h.elim
  refine lv_i2l hx hb dL_parts_8 rfl ?_
  obtain ⟨g4, h⟩ := h
  obtain ⟨g5, h⟩ := h
  refine xr_last hx hb hK hh g4 hS g5 dL_parts_9 (fun H locs hh hS => ?_)
  obtain ⟨m6, em6⟩ : ∃ z : MM, z = sAJ m3 p4 (va_up (mAJ m3 p4) (0 : Int32).toNatClampNeg r2.toInt64) := ⟨_, rfl⟩
  rw [← em6] at hh
  replace h := h m6 em6
  refine lv_goto (tgt := 17) hx hb dL_parts_10 (by decide) ?_
  refine lv_iconst (v := 0) hx hb dL_parts_17 (by decide) ?_
  exact vx_ret (xe_i hx hb hr hlocks hbase hh hK hX hS h (Nat.le_of_ble_eq_true rfl) (Nat.le_of_ble_eq_true rfl) dL_parts_18)

set_option maxHeartbeats 4000000 in
set_option maxRecDepth 100000 in
theorem mt_L_total (l : Launch) (hl9 : l.stackTraces = false) (G : GG) (base : Nat) {p1 : Nat} {p2 : Int32} {p3 : Int32} {p4 : Int32} {p5 : Nat} {m0 : MM} {Q : Int32 → MM → Prop} (h : wp_L_total p1 p2 p3 p4 p5 m0 Q) : vx_Met l yL_total wsL_total ({ frames := 8, cells := 3, slots := 18, locals := 186 }) (va_Pc [.ref p1, .int p2, .int p3, .int p4, .ref p5] (SP G base m0)) (va_Qi Q (HB G base) (xA base)) (xX G base (fun _ _ => False)) 3 18 (xA base) := by
  refine vx_ofWH (cc := cL_total) (maxL := 6) (ret := (some .int)) (hh := [(0, 11, 14, 21), (0, 11, 18, 13), (0, 11, 22, 15)]) (by decide) rfl ?_
  intro p e s m args below meth c s₁ B hml hv
  obtain ⟨rfl, hbase, hh, hK, hX⟩ := hv
  have C0 : BC p s m _ meth c G base RL cL_total 6 (some .int) wsL_total := ⟨B.exec, B.bytes, B.returns, hml, findClass_of_methodNamed B.named, atoms_spec (ws := wsL_total) B.pre, B.notSynchronized, hK, hbase, hX⟩
  obtain ⟨hx, hb, hr, -, hown, hts, hlocks, -, -, -⟩ := id C0
  have hS : va_S (xA base) s.heap s.heap [] := va_S.rf
  have hl := lv_entry ([.ref p1, .int p2, .int p3, .int p4, .ref p5]) (n := 6) (Nat.le_of_ble_eq_true rfl)
  rw [lg_entry_eq]
  generalize (lg_sl ([.ref p1, .int p2, .int p3, .int p4, .ref p5]) ++ List.replicate (6 - (lg_sl ([.ref p1, .int p2, .int p3, .int p4, .ref p5])).length) Slot.unset).toArray = ls at hl ⊢
  have hl : lv_has ls 6 [(0, .ref p1), (1, .int p2), (2, .int p3), (3, .int p4), (4, .ref p5)] := hl
  have htab : c.exceptionTable.toList = tableOf [(0, 11, 14, 21), (0, 11, 18, 13), (0, 11, 22, 15)] := vx_table (x := yL_law) B (hts _ List.mem_cons_self)
  unfold wp_L_total at h
  have q1 : (Cond.classLink RL 21 "java/lang/IndexOutOfBoundsException").before _ s = true := hts _ (List.mem_cons_of_mem _ (List.mem_append_left _ (List.mem_append_left _ (List.mem_append_left _ (List.mem_append_left _ (List.mem_append_left _ (List.mem_append_left _ (List.mem_append_left _ (List.mem_append_left _ (List.mem_append_left _ (List.mem_of_getElem? (i := 0) rfl)))))))))))
  have q2 : (Cond.classLink RL 13 "java/lang/IllegalArgumentException").before _ s = true := hts _ (List.mem_cons_of_mem _ (List.mem_append_left _ (List.mem_append_left _ (List.mem_append_left _ (List.mem_append_left _ (List.mem_append_left _ (List.mem_append_left _ (List.mem_append_left _ (List.mem_append_left _ (List.mem_append_left _ (List.mem_of_getElem? (i := 1) rfl)))))))))))
  have q3 : (Cond.classLink RL 15 "java/lang/IllegalStateException").before _ s = true := hts _ (List.mem_cons_of_mem _ (List.mem_append_left _ (List.mem_append_left _ (List.mem_append_left _ (List.mem_append_left _ (List.mem_append_left _ (List.mem_append_left _ (List.mem_append_left _ (List.mem_append_left _ (List.mem_append_left _ (List.mem_of_getElem? (i := 2) rfl)))))))))))
  refine lv_aload hx hb dL_total_0 (lv_at hl 4 rfl) ?_
  refine lv_iconst (v := 0) hx hb dL_total_2 (by decide) ?_
  refine lv_aload_n hx hb dL_total_3 rfl (lv_at hl 0 rfl) ?_
  refine lv_iload_n hx hb dL_total_4 rfl (lv_at hl 1 rfl) ?_
  refine lv_iload_n hx hb dL_total_5 rfl (lv_at hl 2 rfl) ?_
  refine lv_iload_n hx hb dL_total_6 rfl (lv_at hl 3 rfl) ?_
  obtain ⟨g1, h⟩ := h
  refine xt_l (vx_runV (As := [.int p2, .int p3, .int p4]) (rest := [.int (0 : Int32), .ref p5]) ⟨hx, hb, hml, hown, hts⟩ (mt_X5_total l hl9 G base h) (cwV 3 hts gL_total_X5_total rfl rfl rfl (by decide +kernel) ⟨Nat.le_of_ble_eq_true rfl, Nat.le_of_ble_eq_true rfl⟩) (xp_V hbase hh hK hX hS (ci := 5) g1 (by decide) rfl) rfl rfl hl.1 rfl (lv_room (Nat.le_of_ble_eq_true rfl)) dL_total_7 ⟨Nat.le_of_ble_eq_true rfl, Nat.le_of_ble_eq_true rfl⟩) hS (fun k9 m9 H locs q9 ce h hh hS hc9 hv9 hcl9 => ?_) (fun r2 m3 H locs h hh hS => ?_)
  · by_cases z0 : k9 = 0
    · subst z0
      have h := h.1 rfl
      refine vx_catch (name := xN 0) hown [] (⟨0, 11, 14, 21⟩ : ExceptionTableEntry) [(⟨0, 11, 18, 13⟩ : ExceptionTableEntry), (⟨0, 11, 22, 15⟩ : ExceptionTableEntry)] (htab.trans rfl) (fun z hz => absurd hz List.not_mem_nil) rfl (by decide) q1 (va_Nw.use rfl (hX.2.2.1 0)) hc9 hv9 hcl9 ?_
      refine W.eq (g2 := F0 m 14 ls [.ref q9]) rfl ?_
      refine lv_astore (lv' := [(5, .ref q9), (0, .ref p1), (1, .int p2), (2, .int p3), (3, .int p4), (4, .ref p5)]) hx hb dL_total_14 hl (by decide) rfl (fun ls hl => ?_)
      refine lv_iconst (v := 1) hx hb dL_total_16 (by decide) ?_
      exact vx_ret (xe_i hx hb hr hlocks hbase hh hK hX hS h (Nat.le_of_ble_eq_true rfl) (Nat.le_of_ble_eq_true rfl) dL_total_17)
    · by_cases z1 : k9 = 1
      · subst z1
        have h := h.2.1 rfl
        refine vx_catch (name := xN 1) hown [(⟨0, 11, 14, 21⟩ : ExceptionTableEntry)] (⟨0, 11, 18, 13⟩ : ExceptionTableEntry) [(⟨0, 11, 22, 15⟩ : ExceptionTableEntry)] (htab.trans rfl) (fun z hz => by
          have hz : z ∈ [(⟨0, 11, 14, 21⟩ : ExceptionTableEntry)] := hz
          rcases List.mem_cons.mp hz with rfl | hz
          · exact Or.inr ⟨by decide, xN 0, q1, hX.2.2.2.1 1 0 (by decide)⟩
          · exact absurd hz List.not_mem_nil) rfl (by decide) q2 (va_Nw.use rfl (hX.2.2.1 1)) hc9 hv9 hcl9 ?_
        refine W.eq (g2 := F0 m 18 ls [.ref q9]) rfl ?_
        refine lv_astore (lv' := [(5, .ref q9), (0, .ref p1), (1, .int p2), (2, .int p3), (3, .int p4), (4, .ref p5)]) hx hb dL_total_18 hl (by decide) rfl (fun ls hl => ?_)
        refine lv_iconst (v := 2) hx hb dL_total_20 (by decide) ?_
        exact vx_ret (xe_i hx hb hr hlocks hbase hh hK hX hS h (Nat.le_of_ble_eq_true rfl) (Nat.le_of_ble_eq_true rfl) dL_total_21)
      · rw [xN_2 z0 z1] at hcl9
        have h := h.2.2 z0 z1
        refine vx_catch (name := xN 2) hown [(⟨0, 11, 14, 21⟩ : ExceptionTableEntry), (⟨0, 11, 18, 13⟩ : ExceptionTableEntry)] (⟨0, 11, 22, 15⟩ : ExceptionTableEntry) [] (htab.trans rfl) (fun z hz => by
          have hz : z ∈ [(⟨0, 11, 14, 21⟩ : ExceptionTableEntry), (⟨0, 11, 18, 13⟩ : ExceptionTableEntry)] := hz
          rcases List.mem_cons.mp hz with rfl | hz
          · exact Or.inr ⟨by decide, xN 0, q1, hX.2.2.2.1 2 0 (by decide)⟩
          · rcases List.mem_cons.mp hz with rfl | hz
            · exact Or.inr ⟨by decide, xN 1, q2, hX.2.2.2.1 2 1 (by decide)⟩
            · exact absurd hz List.not_mem_nil) rfl (by decide) q3 (va_Nw.use rfl (hX.2.2.1 2)) hc9 hv9 hcl9 ?_
        refine W.eq (g2 := F0 m 22 ls [.ref q9]) rfl ?_
        refine lv_astore (lv' := [(5, .ref q9), (0, .ref p1), (1, .int p2), (2, .int p3), (3, .int p4), (4, .ref p5)]) hx hb dL_total_22 hl (by decide) rfl (fun ls hl => ?_)
        refine lv_iconst (v := 3) hx hb dL_total_24 (by decide) ?_
        exact vx_ret (xe_i hx hb hr hlocks hbase hh hK hX hS h (Nat.le_of_ble_eq_true rfl) (Nat.le_of_ble_eq_true rfl) dL_total_25)
  obtain ⟨g4, h⟩ := h
  obtain ⟨g5, h⟩ := h
  refine xr_last hx hb hK hh g4 hS g5 dL_total_10 (fun H locs hh hS => ?_)
  obtain ⟨m6, em6⟩ : ∃ z : MM, z = sAJ m3 p5 (va_up (mAJ m3 p5) (0 : Int32).toNatClampNeg r2) := ⟨_, rfl⟩
  rw [← em6] at hh
  replace h := h m6 em6
  refine lv_goto (tgt := 26) hx hb dL_total_11 (by decide) ?_
  refine lv_iconst (v := 0) hx hb dL_total_26 (by decide) ?_
  exact vx_ret (xe_i hx hb hr hlocks hbase hh hK hX hS h (Nat.le_of_ble_eq_true rfl) (Nat.le_of_ble_eq_true rfl) dL_total_27)

set_option maxHeartbeats 4000000 in
set_option maxRecDepth 100000 in
theorem mt_L_totalByPoints (l : Launch) (hl9 : l.stackTraces = false) (G : GG) (base : Nat) {p1 : Nat} {p2 : Int32} {p3 : Int32} {p4 : Int32} {p5 : Nat} {m0 : MM} {Q : Int32 → MM → Prop} (h : wp_L_totalByPoints p1 p2 p3 p4 p5 m0 Q) : vx_Met l yL_totalByPoints wsL_totalByPoints ({ frames := 8, cells := 3, slots := 18, locals := 142 }) (va_Pc [.ref p1, .int p2, .int p3, .int p4, .ref p5] (SP G base m0)) (va_Qi Q (HB G base) (xA base)) (xX G base (fun _ _ => False)) 3 18 (xA base) := by
  refine vx_ofWH (cc := cL_totalByPoints) (maxL := 6) (ret := (some .int)) (hh := [(0, 11, 14, 21), (0, 11, 18, 13), (0, 11, 22, 15)]) (by decide) rfl ?_
  intro p e s m args below meth c s₁ B hml hv
  obtain ⟨rfl, hbase, hh, hK, hX⟩ := hv
  have C0 : BC p s m _ meth c G base RL cL_totalByPoints 6 (some .int) wsL_totalByPoints := ⟨B.exec, B.bytes, B.returns, hml, findClass_of_methodNamed B.named, atoms_spec (ws := wsL_totalByPoints) B.pre, B.notSynchronized, hK, hbase, hX⟩
  obtain ⟨hx, hb, hr, -, hown, hts, hlocks, -, -, -⟩ := id C0
  have hS : va_S (xA base) s.heap s.heap [] := va_S.rf
  have hl := lv_entry ([.ref p1, .int p2, .int p3, .int p4, .ref p5]) (n := 6) (Nat.le_of_ble_eq_true rfl)
  rw [lg_entry_eq]
  generalize (lg_sl ([.ref p1, .int p2, .int p3, .int p4, .ref p5]) ++ List.replicate (6 - (lg_sl ([.ref p1, .int p2, .int p3, .int p4, .ref p5])).length) Slot.unset).toArray = ls at hl ⊢
  have hl : lv_has ls 6 [(0, .ref p1), (1, .int p2), (2, .int p3), (3, .int p4), (4, .ref p5)] := hl
  have htab : c.exceptionTable.toList = tableOf [(0, 11, 14, 21), (0, 11, 18, 13), (0, 11, 22, 15)] := vx_table (x := yL_law) B (hts _ List.mem_cons_self)
  unfold wp_L_totalByPoints at h
  have q1 : (Cond.classLink RL 21 "java/lang/IndexOutOfBoundsException").before _ s = true := hts _ (List.mem_cons_of_mem _ (List.mem_append_left _ (List.mem_append_left _ (List.mem_append_left _ (List.mem_append_left _ (List.mem_append_left _ (List.mem_append_left _ (List.mem_append_left _ (List.mem_append_left _ (List.mem_of_getElem? (i := 0) rfl))))))))))
  have q2 : (Cond.classLink RL 13 "java/lang/IllegalArgumentException").before _ s = true := hts _ (List.mem_cons_of_mem _ (List.mem_append_left _ (List.mem_append_left _ (List.mem_append_left _ (List.mem_append_left _ (List.mem_append_left _ (List.mem_append_left _ (List.mem_append_left _ (List.mem_append_left _ (List.mem_of_getElem? (i := 1) rfl))))))))))
  have q3 : (Cond.classLink RL 15 "java/lang/IllegalStateException").before _ s = true := hts _ (List.mem_cons_of_mem _ (List.mem_append_left _ (List.mem_append_left _ (List.mem_append_left _ (List.mem_append_left _ (List.mem_append_left _ (List.mem_append_left _ (List.mem_append_left _ (List.mem_append_left _ (List.mem_of_getElem? (i := 2) rfl))))))))))
  refine lv_aload hx hb dL_totalByPoints_0 (lv_at hl 4 rfl) ?_
  refine lv_iconst (v := 0) hx hb dL_totalByPoints_2 (by decide) ?_
  refine lv_aload_n hx hb dL_totalByPoints_3 rfl (lv_at hl 0 rfl) ?_
  refine lv_iload_n hx hb dL_totalByPoints_4 rfl (lv_at hl 1 rfl) ?_
  refine lv_iload_n hx hb dL_totalByPoints_5 rfl (lv_at hl 2 rfl) ?_
  refine lv_iload_n hx hb dL_totalByPoints_6 rfl (lv_at hl 3 rfl) ?_
  obtain ⟨g1, h⟩ := h
  refine xt_l (vx_runV (As := [.int p2, .int p3, .int p4]) (rest := [.int (0 : Int32), .ref p5]) ⟨hx, hb, hml, hown, hts⟩ (mt_X5_totalByPoints l hl9 G base h) (cwV 3 hts gL_totalByPoints_X5_totalByPoints rfl rfl rfl (by decide +kernel) ⟨Nat.le_of_ble_eq_true rfl, Nat.le_of_ble_eq_true rfl⟩) (xp_V hbase hh hK hX hS (ci := 5) g1 (by decide) rfl) rfl rfl hl.1 rfl (lv_room (Nat.le_of_ble_eq_true rfl)) dL_totalByPoints_7 ⟨Nat.le_of_ble_eq_true rfl, Nat.le_of_ble_eq_true rfl⟩) hS (fun k9 m9 H locs q9 ce h hh hS hc9 hv9 hcl9 => ?_) (fun r2 m3 H locs h hh hS => ?_)
  · by_cases z0 : k9 = 0
    · subst z0
      have h := h.1 rfl
      refine vx_catch (name := xN 0) hown [] (⟨0, 11, 14, 21⟩ : ExceptionTableEntry) [(⟨0, 11, 18, 13⟩ : ExceptionTableEntry), (⟨0, 11, 22, 15⟩ : ExceptionTableEntry)] (htab.trans rfl) (fun z hz => absurd hz List.not_mem_nil) rfl (by decide) q1 (va_Nw.use rfl (hX.2.2.1 0)) hc9 hv9 hcl9 ?_
      refine W.eq (g2 := F0 m 14 ls [.ref q9]) rfl ?_
      refine lv_astore (lv' := [(5, .ref q9), (0, .ref p1), (1, .int p2), (2, .int p3), (3, .int p4), (4, .ref p5)]) hx hb dL_totalByPoints_14 hl (by decide) rfl (fun ls hl => ?_)
      refine lv_iconst (v := 1) hx hb dL_totalByPoints_16 (by decide) ?_
      exact vx_ret (xe_i hx hb hr hlocks hbase hh hK hX hS h (Nat.le_of_ble_eq_true rfl) (Nat.le_of_ble_eq_true rfl) dL_totalByPoints_17)
    · by_cases z1 : k9 = 1
      · subst z1
        have h := h.2.1 rfl
        refine vx_catch (name := xN 1) hown [(⟨0, 11, 14, 21⟩ : ExceptionTableEntry)] (⟨0, 11, 18, 13⟩ : ExceptionTableEntry) [(⟨0, 11, 22, 15⟩ : ExceptionTableEntry)] (htab.trans rfl) (fun z hz => by
          have hz : z ∈ [(⟨0, 11, 14, 21⟩ : ExceptionTableEntry)] := hz
          rcases List.mem_cons.mp hz with rfl | hz
          · exact Or.inr ⟨by decide, xN 0, q1, hX.2.2.2.1 1 0 (by decide)⟩
          · exact absurd hz List.not_mem_nil) rfl (by decide) q2 (va_Nw.use rfl (hX.2.2.1 1)) hc9 hv9 hcl9 ?_
        refine W.eq (g2 := F0 m 18 ls [.ref q9]) rfl ?_
        refine lv_astore (lv' := [(5, .ref q9), (0, .ref p1), (1, .int p2), (2, .int p3), (3, .int p4), (4, .ref p5)]) hx hb dL_totalByPoints_18 hl (by decide) rfl (fun ls hl => ?_)
        refine lv_iconst (v := 2) hx hb dL_totalByPoints_20 (by decide) ?_
        exact vx_ret (xe_i hx hb hr hlocks hbase hh hK hX hS h (Nat.le_of_ble_eq_true rfl) (Nat.le_of_ble_eq_true rfl) dL_totalByPoints_21)
      · rw [xN_2 z0 z1] at hcl9
        have h := h.2.2 z0 z1
        refine vx_catch (name := xN 2) hown [(⟨0, 11, 14, 21⟩ : ExceptionTableEntry), (⟨0, 11, 18, 13⟩ : ExceptionTableEntry)] (⟨0, 11, 22, 15⟩ : ExceptionTableEntry) [] (htab.trans rfl) (fun z hz => by
          have hz : z ∈ [(⟨0, 11, 14, 21⟩ : ExceptionTableEntry), (⟨0, 11, 18, 13⟩ : ExceptionTableEntry)] := hz
          rcases List.mem_cons.mp hz with rfl | hz
          · exact Or.inr ⟨by decide, xN 0, q1, hX.2.2.2.1 2 0 (by decide)⟩
          · rcases List.mem_cons.mp hz with rfl | hz
            · exact Or.inr ⟨by decide, xN 1, q2, hX.2.2.2.1 2 1 (by decide)⟩
            · exact absurd hz List.not_mem_nil) rfl (by decide) q3 (va_Nw.use rfl (hX.2.2.1 2)) hc9 hv9 hcl9 ?_
        refine W.eq (g2 := F0 m 22 ls [.ref q9]) rfl ?_
        refine lv_astore (lv' := [(5, .ref q9), (0, .ref p1), (1, .int p2), (2, .int p3), (3, .int p4), (4, .ref p5)]) hx hb dL_totalByPoints_22 hl (by decide) rfl (fun ls hl => ?_)
        refine lv_iconst (v := 3) hx hb dL_totalByPoints_24 (by decide) ?_
        exact vx_ret (xe_i hx hb hr hlocks hbase hh hK hX hS h (Nat.le_of_ble_eq_true rfl) (Nat.le_of_ble_eq_true rfl) dL_totalByPoints_25)
  obtain ⟨g4, h⟩ := h
  obtain ⟨g5, h⟩ := h
  refine xr_last hx hb hK hh g4 hS g5 dL_totalByPoints_10 (fun H locs hh hS => ?_)
  obtain ⟨m6, em6⟩ : ∃ z : MM, z = sAJ m3 p5 (va_up (mAJ m3 p5) (0 : Int32).toNatClampNeg r2) := ⟨_, rfl⟩
  rw [← em6] at hh
  replace h := h m6 em6
  refine lv_goto (tgt := 26) hx hb dL_totalByPoints_11 (by decide) ?_
  refine lv_iconst (v := 0) hx hb dL_totalByPoints_26 (by decide) ?_
  exact vx_ret (xe_i hx hb hr hlocks hbase hh hK hX hS h (Nat.le_of_ble_eq_true rfl) (Nat.le_of_ble_eq_true rfl) dL_totalByPoints_27)

set_option maxHeartbeats 4000000 in
set_option maxRecDepth 100000 in
theorem mt_L_ratePerHour (l : Launch) (hl9 : l.stackTraces = false) (G : GG) (base : Nat) {p1 : Nat} {p2 : Int32} {p3 : Int32} {p4 : Int32} {p5 : Nat} {m0 : MM} {Q : Int32 → MM → Prop} (h : wp_L_ratePerHour p1 p2 p3 p4 p5 m0 Q) : vx_Met l yL_ratePerHour wsL_ratePerHour ({ frames := 9, cells := 3, slots := 18, locals := 209 }) (va_Pc [.ref p1, .int p2, .int p3, .int p4, .ref p5] (SP G base m0)) (va_Qi Q (HB G base) (xA base)) (xX G base (fun _ _ => False)) 3 18 (xA base) := by
  refine vx_ofWH (cc := cL_ratePerHour) (maxL := 6) (ret := (some .int)) (hh := [(0, 11, 14, 21), (0, 11, 18, 13), (0, 11, 22, 15)]) (by decide) rfl ?_
  intro p e s m args below meth c s₁ B hml hv
  obtain ⟨rfl, hbase, hh, hK, hX⟩ := hv
  have C0 : BC p s m _ meth c G base RL cL_ratePerHour 6 (some .int) wsL_ratePerHour := ⟨B.exec, B.bytes, B.returns, hml, findClass_of_methodNamed B.named, atoms_spec (ws := wsL_ratePerHour) B.pre, B.notSynchronized, hK, hbase, hX⟩
  obtain ⟨hx, hb, hr, -, hown, hts, hlocks, -, -, -⟩ := id C0
  have hS : va_S (xA base) s.heap s.heap [] := va_S.rf
  have hl := lv_entry ([.ref p1, .int p2, .int p3, .int p4, .ref p5]) (n := 6) (Nat.le_of_ble_eq_true rfl)
  rw [lg_entry_eq]
  generalize (lg_sl ([.ref p1, .int p2, .int p3, .int p4, .ref p5]) ++ List.replicate (6 - (lg_sl ([.ref p1, .int p2, .int p3, .int p4, .ref p5])).length) Slot.unset).toArray = ls at hl ⊢
  have hl : lv_has ls 6 [(0, .ref p1), (1, .int p2), (2, .int p3), (3, .int p4), (4, .ref p5)] := hl
  have htab : c.exceptionTable.toList = tableOf [(0, 11, 14, 21), (0, 11, 18, 13), (0, 11, 22, 15)] := vx_table (x := yL_law) B (hts _ List.mem_cons_self)
  unfold wp_L_ratePerHour at h
  have q1 : (Cond.classLink RL 21 "java/lang/IndexOutOfBoundsException").before _ s = true := hts _ (List.mem_cons_of_mem _ (List.mem_append_left _ (List.mem_append_left _ (List.mem_append_left _ (List.mem_append_left _ (List.mem_append_left _ (List.mem_append_left _ (List.mem_append_left _ (List.mem_append_left _ (List.mem_append_left _ (List.mem_of_getElem? (i := 0) rfl)))))))))))
  have q2 : (Cond.classLink RL 13 "java/lang/IllegalArgumentException").before _ s = true := hts _ (List.mem_cons_of_mem _ (List.mem_append_left _ (List.mem_append_left _ (List.mem_append_left _ (List.mem_append_left _ (List.mem_append_left _ (List.mem_append_left _ (List.mem_append_left _ (List.mem_append_left _ (List.mem_append_left _ (List.mem_of_getElem? (i := 1) rfl)))))))))))
  have q3 : (Cond.classLink RL 15 "java/lang/IllegalStateException").before _ s = true := hts _ (List.mem_cons_of_mem _ (List.mem_append_left _ (List.mem_append_left _ (List.mem_append_left _ (List.mem_append_left _ (List.mem_append_left _ (List.mem_append_left _ (List.mem_append_left _ (List.mem_append_left _ (List.mem_append_left _ (List.mem_of_getElem? (i := 2) rfl)))))))))))
  refine lv_aload hx hb dL_ratePerHour_0 (lv_at hl 4 rfl) ?_
  refine lv_iconst (v := 0) hx hb dL_ratePerHour_2 (by decide) ?_
  refine lv_aload_n hx hb dL_ratePerHour_3 rfl (lv_at hl 0 rfl) ?_
  refine lv_iload_n hx hb dL_ratePerHour_4 rfl (lv_at hl 1 rfl) ?_
  refine lv_iload_n hx hb dL_ratePerHour_5 rfl (lv_at hl 2 rfl) ?_
  refine lv_iload_n hx hb dL_ratePerHour_6 rfl (lv_at hl 3 rfl) ?_
  obtain ⟨g1, h⟩ := h
  refine xt_d (vx_runV (As := [.int p2, .int p3, .int p4]) (rest := [.int (0 : Int32), .ref p5]) ⟨hx, hb, hml, hown, hts⟩ (mt_X5_ratePerHour l hl9 G base h) (cwV 3 hts gL_ratePerHour_X5_ratePerHour rfl rfl rfl (by decide +kernel) ⟨Nat.le_of_ble_eq_true rfl, Nat.le_of_ble_eq_true rfl⟩) (xp_V hbase hh hK hX hS (ci := 5) g1 (by decide) rfl) rfl rfl hl.1 rfl (lv_room (Nat.le_of_ble_eq_true rfl)) dL_ratePerHour_7 ⟨Nat.le_of_ble_eq_true rfl, Nat.le_of_ble_eq_true rfl⟩) hS (fun k9 m9 H locs q9 ce h hh hS hc9 hv9 hcl9 => ?_) (fun r2 m3 H locs h hh hS => ?_)
  · by_cases z0 : k9 = 0
    · subst z0
      have h := h.1 rfl
      refine vx_catch (name := xN 0) hown [] (⟨0, 11, 14, 21⟩ : ExceptionTableEntry) [(⟨0, 11, 18, 13⟩ : ExceptionTableEntry), (⟨0, 11, 22, 15⟩ : ExceptionTableEntry)] (htab.trans rfl) (fun z hz => absurd hz List.not_mem_nil) rfl (by decide) q1 (va_Nw.use rfl (hX.2.2.1 0)) hc9 hv9 hcl9 ?_
      refine W.eq (g2 := F0 m 14 ls [.ref q9]) rfl ?_
      refine lv_astore (lv' := [(5, .ref q9), (0, .ref p1), (1, .int p2), (2, .int p3), (3, .int p4), (4, .ref p5)]) hx hb dL_ratePerHour_14 hl (by decide) rfl (fun ls hl => ?_)
      refine lv_iconst (v := 1) hx hb dL_ratePerHour_16 (by decide) ?_
      exact vx_ret (xe_i hx hb hr hlocks hbase hh hK hX hS h (Nat.le_of_ble_eq_true rfl) (Nat.le_of_ble_eq_true rfl) dL_ratePerHour_17)
    · by_cases z1 : k9 = 1
      · subst z1
        have h := h.2.1 rfl
        refine vx_catch (name := xN 1) hown [(⟨0, 11, 14, 21⟩ : ExceptionTableEntry)] (⟨0, 11, 18, 13⟩ : ExceptionTableEntry) [(⟨0, 11, 22, 15⟩ : ExceptionTableEntry)] (htab.trans rfl) (fun z hz => by
          have hz : z ∈ [(⟨0, 11, 14, 21⟩ : ExceptionTableEntry)] := hz
          rcases List.mem_cons.mp hz with rfl | hz
          · exact Or.inr ⟨by decide, xN 0, q1, hX.2.2.2.1 1 0 (by decide)⟩
          · exact absurd hz List.not_mem_nil) rfl (by decide) q2 (va_Nw.use rfl (hX.2.2.1 1)) hc9 hv9 hcl9 ?_
        refine W.eq (g2 := F0 m 18 ls [.ref q9]) rfl ?_
        refine lv_astore (lv' := [(5, .ref q9), (0, .ref p1), (1, .int p2), (2, .int p3), (3, .int p4), (4, .ref p5)]) hx hb dL_ratePerHour_18 hl (by decide) rfl (fun ls hl => ?_)
        refine lv_iconst (v := 2) hx hb dL_ratePerHour_20 (by decide) ?_
        exact vx_ret (xe_i hx hb hr hlocks hbase hh hK hX hS h (Nat.le_of_ble_eq_true rfl) (Nat.le_of_ble_eq_true rfl) dL_ratePerHour_21)
      · rw [xN_2 z0 z1] at hcl9
        have h := h.2.2 z0 z1
        refine vx_catch (name := xN 2) hown [(⟨0, 11, 14, 21⟩ : ExceptionTableEntry), (⟨0, 11, 18, 13⟩ : ExceptionTableEntry)] (⟨0, 11, 22, 15⟩ : ExceptionTableEntry) [] (htab.trans rfl) (fun z hz => by
          have hz : z ∈ [(⟨0, 11, 14, 21⟩ : ExceptionTableEntry), (⟨0, 11, 18, 13⟩ : ExceptionTableEntry)] := hz
          rcases List.mem_cons.mp hz with rfl | hz
          · exact Or.inr ⟨by decide, xN 0, q1, hX.2.2.2.1 2 0 (by decide)⟩
          · rcases List.mem_cons.mp hz with rfl | hz
            · exact Or.inr ⟨by decide, xN 1, q2, hX.2.2.2.1 2 1 (by decide)⟩
            · exact absurd hz List.not_mem_nil) rfl (by decide) q3 (va_Nw.use rfl (hX.2.2.1 2)) hc9 hv9 hcl9 ?_
        refine W.eq (g2 := F0 m 22 ls [.ref q9]) rfl ?_
        refine lv_astore (lv' := [(5, .ref q9), (0, .ref p1), (1, .int p2), (2, .int p3), (3, .int p4), (4, .ref p5)]) hx hb dL_ratePerHour_22 hl (by decide) rfl (fun ls hl => ?_)
        refine lv_iconst (v := 3) hx hb dL_ratePerHour_24 (by decide) ?_
        exact vx_ret (xe_i hx hb hr hlocks hbase hh hK hX hS h (Nat.le_of_ble_eq_true rfl) (Nat.le_of_ble_eq_true rfl) dL_ratePerHour_25)
  obtain ⟨g4, h⟩ := h
  obtain ⟨g5, h⟩ := h
  refine xr_dast hx hb hK hh g4 hS g5 dL_ratePerHour_10 (fun H locs hh hS => ?_)
  obtain ⟨m6, em6⟩ : ∃ z : MM, z = sAD m3 p5 (va_up (mAD m3 p5) (0 : Int32).toNatClampNeg r2) := ⟨_, rfl⟩
  rw [← em6] at hh
  replace h := h m6 em6
  refine lv_goto (tgt := 26) hx hb dL_ratePerHour_11 (by decide) ?_
  refine lv_iconst (v := 0) hx hb dL_ratePerHour_26 (by decide) ?_
  exact vx_ret (xe_i hx hb hr hlocks hbase hh hK hX hS h (Nat.le_of_ble_eq_true rfl) (Nat.le_of_ble_eq_true rfl) dL_ratePerHour_27)
