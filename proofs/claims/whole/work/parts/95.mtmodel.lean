/-! EACH METHOD AS ITS wp SAYS: written by wip/whole/gen.py -/
set_option maxHeartbeats 4000000 in
set_option maxRecDepth 100000 in
theorem mt_X6_init (l : Launch) (G : GG) (base : Nat) {a0 : Nat} {m0 : MM} {Q : MM → Prop} (h : wp_X6_init a0 m0 Q) : Met l yX6_init wsX6_init ({ frames := 1, cells := 7, slots := 30922, locals := 70 }) (va_Pc [.ref a0] (SP G base m0)) (va_Qv Q (HB G base) (xA base)) 7 30922 (xA base) := by
  refine Met.ofW (cc := cX6_init) (maxL := 1) (ret := none) (by decide) rfl ?_
  intro p e s m args below meth c s₁ B hml hv
  obtain ⟨rfl, hbase, hh, hK, hX⟩ := hv
  have C0 : BC p s m _ meth c G base RX6 cX6_init 1 none wsX6_init := ⟨B.exec, B.bytes, B.returns, hml, findClass_of_methodNamed B.named, atoms_spec (ws := wsX6_init) B.pre, B.notSynchronized, hK, hbase, hX⟩
  obtain ⟨hx, hb, hr, -, hown, hts, hlocks, -, -, -⟩ := id C0
  have hin : meth.name = "<init>" := (name_of_methodNamed B.named B.method).1
  have hS : va_S (xA base) s.heap s.heap [] := va_S.rf
  have hl := lv_entry ([.ref a0]) (n := 1) (Nat.le_of_ble_eq_true rfl)
  rw [lg_entry_eq]
  generalize (lg_sl ([.ref a0]) ++ List.replicate (1 - (lg_sl ([.ref a0])).length) Slot.unset).toArray = ls at hl ⊢
  have hl : lv_has ls 1 [(0, .ref a0)] := hl
  unfold wp_X6_init at h
  have q1 : (Cond.methodLink RX6 1 objectInit).before _ s = true := hts _ (List.mem_cons_of_mem _ (List.mem_append_left _ (List.mem_of_getElem? (i := 0) rfl)))
  have q2 : (Cond.instanceMethod objectInit).before _ s = true := hts _ (List.mem_cons_of_mem _ (List.mem_append_left _ (List.mem_of_getElem? (i := 1) rfl)))
  have q3 : (Cond.code objectInit ⟨#[0xb1]⟩ 1 none).before _ s = true := hts _ (List.mem_cons_of_mem _ (List.mem_append_left _ (List.mem_of_getElem? (i := 2) rfl)))
  have q4 : (Cond.arrayClass .int).before _ s = true := hts _ (List.mem_cons_of_mem _ (List.mem_append_left _ (List.mem_of_getElem? (i := 3) rfl)))
  have hL6 : ∀ w ∈ u_ws RX6 TX6 17, w.before _ s = true := fun w h9 => hts w (List.mem_cons_of_mem _ (List.mem_append_right _ (h9)))
  have q6 : (Cond.fieldLink RX6 7 "RollupStoreModel" "kind" "[I").before _ s = true := hts _ (List.mem_cons_of_mem _ (List.mem_append_left _ (List.mem_of_getElem? (i := 4) rfl)))
  have q7 : (Cond.fieldLink RX6 13 "RollupStoreModel" "retention" "[I").before _ s = true := hts _ (List.mem_cons_of_mem _ (List.mem_append_left _ (List.mem_of_getElem? (i := 5) rfl)))
  have q8 : (Cond.fieldLink RX6 16 "RollupStoreModel" "horizon" "[I").before _ s = true := hts _ (List.mem_cons_of_mem _ (List.mem_append_left _ (List.mem_of_getElem? (i := 6) rfl)))
  have q9 : (Cond.fieldLink RX6 19 "RollupStoreModel" "who" "[I").before _ s = true := hts _ (List.mem_cons_of_mem _ (List.mem_append_left _ (List.mem_of_getElem? (i := 7) rfl)))
  have q10 : (Cond.fieldLink RX6 22 "RollupStoreModel" "time" "[I").before _ s = true := hts _ (List.mem_cons_of_mem _ (List.mem_append_left _ (List.mem_of_getElem? (i := 8) rfl)))
  have q11 : (Cond.fieldLink RX6 25 "RollupStoreModel" "value" "[I").before _ s = true := hts _ (List.mem_cons_of_mem _ (List.mem_append_left _ (List.mem_of_getElem? (i := 9) rfl)))
  have q12 : (Cond.arrayClass .long).before _ s = true := hts _ (List.mem_cons_of_mem _ (List.mem_append_left _ (List.mem_of_getElem? (i := 10) rfl)))
  have q13 : (Cond.fieldLink RX6 28 "RollupStoreModel" "part" "[J").before _ s = true := hts _ (List.mem_cons_of_mem _ (List.mem_append_left _ (List.mem_of_getElem? (i := 11) rfl)))
  have q14 : (Cond.constant RX6 32 (86400)).before _ s = true := hts _ (List.mem_cons_of_mem _ (List.mem_append_left _ (List.mem_of_getElem? (i := 12) rfl)))
  have q15 : (Cond.constant RX6 33 (864000)).before _ s = true := hts _ (List.mem_cons_of_mem _ (List.mem_append_left _ (List.mem_of_getElem? (i := 13) rfl)))
  have q16 : (Cond.constant RX6 34 (8640000)).before _ s = true := hts _ (List.mem_cons_of_mem _ (List.mem_append_left _ (List.mem_of_getElem? (i := 14) rfl)))
  refine lv_aload_n hx hb dX6_init_0 rfl (lv_at hl 0 rfl) ?_
  refine W.objInit hx hb hown q1 q2 q3 rfl (by rw [hml]; exact hl.1) rfl dX6_init_1 (Nat.le_of_ble_eq_true rfl) (Nat.le_of_ble_eq_true rfl) ?_
  refine W.eq (g2 := F0 m 4 ls []) rfl ?_
  refine lv_aload_n hx hb dX6_init_4 rfl (lv_at hl 0 rfl) ?_
  refine lv_iconst (v := 4) hx hb dX6_init_5 (by decide) ?_
  refine xr_newi hx hb q4 hK hh hS hbase (n := 4) (N' := 4) (by decide) (by decide) (by decide) (Nat.le_of_ble_eq_true rfl) (Nat.le_of_ble_eq_true rfl) dX6_init_6 (fun a1 H ga1 gba1 hh hS => ?_)
  replace h := h a1 ga1
  obtain ⟨m2, em2⟩ : ∃ z : MM, z = nw m0 11 4 a1 := ⟨_, rfl⟩
  rw [← em2] at hh
  replace h := h m2 em2
  obtain ⟨g3, h⟩ := h
  refine xr_putRF (ci := 6) (C := RX6) (T := TX6) (N := 17) hx hb hL6 hown hK hh g3 (by decide) rfl 3 123 rfl rfl (by decide) (by decide) q6 (fun _ h9 => h9) tyX6 tyX6_ok nmX6 rfl hin rfl rfl rfl hS dX6_init_8 (fun H locs hh hS => ?_)
  obtain ⟨m4, em4⟩ : ∃ z : MM, z = sR m2 123 a0 (some a1) := ⟨_, rfl⟩
  rw [← em4] at hh
  replace h := h m4 em4
  refine lv_aload_n hx hb dX6_init_11 rfl (lv_at hl 0 rfl) ?_
  refine lv_iconst (v := 4) hx hb dX6_init_12 (by decide) ?_
  refine xr_newi hx hb q4 hK hh hS hbase (n := 4) (N' := 4) (by decide) (by decide) (by decide) (Nat.le_of_ble_eq_true rfl) (Nat.le_of_ble_eq_true rfl) dX6_init_13 (fun a5 H ga5 gba5 hh hS => ?_)
  replace h := h a5 ga5
  obtain ⟨m6, em6⟩ : ∃ z : MM, z = nw m4 11 4 a5 := ⟨_, rfl⟩
  rw [← em6] at hh
  replace h := h m6 em6
  obtain ⟨g7, h⟩ := h
  refine xr_putRF (ci := 6) (C := RX6) (T := TX6) (N := 17) hx hb hL6 hown hK hh g7 (by decide) rfl 4 124 rfl rfl (by decide) (by decide) q7 (fun _ h9 => h9) tyX6 tyX6_ok nmX6 rfl hin rfl rfl rfl hS dX6_init_15 (fun H locs hh hS => ?_)
  obtain ⟨m8, em8⟩ : ∃ z : MM, z = sR m6 124 a0 (some a5) := ⟨_, rfl⟩
  rw [← em8] at hh
  replace h := h m8 em8
  refine lv_aload_n hx hb dX6_init_18 rfl (lv_at hl 0 rfl) ?_
  refine lv_iconst (v := 4) hx hb dX6_init_19 (by decide) ?_
  refine xr_newi hx hb q4 hK hh hS hbase (n := 4) (N' := 4) (by decide) (by decide) (by decide) (Nat.le_of_ble_eq_true rfl) (Nat.le_of_ble_eq_true rfl) dX6_init_20 (fun a9 H ga9 gba9 hh hS => ?_)
  replace h := h a9 ga9
  obtain ⟨m10, em10⟩ : ∃ z : MM, z = nw m8 11 4 a9 := ⟨_, rfl⟩
  rw [← em10] at hh
  replace h := h m10 em10
  obtain ⟨g11, h⟩ := h
  refine xr_putRF (ci := 6) (C := RX6) (T := TX6) (N := 17) hx hb hL6 hown hK hh g11 (by decide) rfl 5 125 rfl rfl (by decide) (by decide) q8 (fun _ h9 => h9) tyX6 tyX6_ok nmX6 rfl hin rfl rfl rfl hS dX6_init_22 (fun H locs hh hS => ?_)
  obtain ⟨m12, em12⟩ : ∃ z : MM, z = sR m10 125 a0 (some a9) := ⟨_, rfl⟩
  rw [← em12] at hh
  replace h := h m12 em12
  refine lv_aload_n hx hb dX6_init_25 rfl (lv_at hl 0 rfl) ?_
  refine lv_sipush (v := 10300) hx hb dX6_init_26 (by decide) ?_
  refine xr_newi hx hb q4 hK hh hS hbase (n := 10300) (N' := 10300) (by decide) (by decide) (by decide) (Nat.le_of_ble_eq_true rfl) (Nat.le_of_ble_eq_true rfl) dX6_init_29 (fun a13 H ga13 gba13 hh hS => ?_)
  replace h := h a13 ga13
  obtain ⟨m14, em14⟩ : ∃ z : MM, z = nw m12 11 10300 a13 := ⟨_, rfl⟩
  rw [← em14] at hh
  replace h := h m14 em14
  obtain ⟨g15, h⟩ := h
  refine xr_putRF (ci := 6) (C := RX6) (T := TX6) (N := 17) hx hb hL6 hown hK hh g15 (by decide) rfl 6 126 rfl rfl (by decide) (by decide) q9 (fun _ h9 => h9) tyX6 tyX6_ok nmX6 rfl hin rfl rfl rfl hS dX6_init_31 (fun H locs hh hS => ?_)
  obtain ⟨m16, em16⟩ : ∃ z : MM, z = sR m14 126 a0 (some a13) := ⟨_, rfl⟩
  rw [← em16] at hh
  replace h := h m16 em16
  refine lv_aload_n hx hb dX6_init_34 rfl (lv_at hl 0 rfl) ?_
  refine lv_sipush (v := 10300) hx hb dX6_init_35 (by decide) ?_
  refine xr_newi hx hb q4 hK hh hS hbase (n := 10300) (N' := 10300) (by decide) (by decide) (by decide) (Nat.le_of_ble_eq_true rfl) (Nat.le_of_ble_eq_true rfl) dX6_init_38 (fun a17 H ga17 gba17 hh hS => ?_)
  replace h := h a17 ga17
  obtain ⟨m18, em18⟩ : ∃ z : MM, z = nw m16 11 10300 a17 := ⟨_, rfl⟩
  rw [← em18] at hh
  replace h := h m18 em18
  obtain ⟨g19, h⟩ := h
  refine xr_putRF (ci := 6) (C := RX6) (T := TX6) (N := 17) hx hb hL6 hown hK hh g19 (by decide) rfl 7 127 rfl rfl (by decide) (by decide) q10 (fun _ h9 => h9) tyX6 tyX6_ok nmX6 rfl hin rfl rfl rfl hS dX6_init_40 (fun H locs hh hS => ?_)
  obtain ⟨m20, em20⟩ : ∃ z : MM, z = sR m18 127 a0 (some a17) := ⟨_, rfl⟩
  rw [← em20] at hh
  replace h := h m20 em20
  refine lv_aload_n hx hb dX6_init_43 rfl (lv_at hl 0 rfl) ?_
  refine lv_sipush (v := 10300) hx hb dX6_init_44 (by decide) ?_
  refine xr_newi hx hb q4 hK hh hS hbase (n := 10300) (N' := 10300) (by decide) (by decide) (by decide) (Nat.le_of_ble_eq_true rfl) (Nat.le_of_ble_eq_true rfl) dX6_init_47 (fun a21 H ga21 gba21 hh hS => ?_)
  replace h := h a21 ga21
  obtain ⟨m22, em22⟩ : ∃ z : MM, z = nw m20 11 10300 a21 := ⟨_, rfl⟩
  rw [← em22] at hh
  replace h := h m22 em22
  obtain ⟨g23, h⟩ := h
  refine xr_putRF (ci := 6) (C := RX6) (T := TX6) (N := 17) hx hb hL6 hown hK hh g23 (by decide) rfl 8 128 rfl rfl (by decide) (by decide) q11 (fun _ h9 => h9) tyX6 tyX6_ok nmX6 rfl hin rfl rfl rfl hS dX6_init_49 (fun H locs hh hS => ?_)
  obtain ⟨m24, em24⟩ : ∃ z : MM, z = sR m22 128 a0 (some a21) := ⟨_, rfl⟩
  rw [← em24] at hh
  replace h := h m24 em24
  refine lv_aload_n hx hb dX6_init_52 rfl (lv_at hl 0 rfl) ?_
  refine lv_bipush (v := 10) hx hb dX6_init_53 (by decide) ?_
  refine xr_newl hx hb q12 hK hh hS hbase (n := 10) (N' := 10) (by decide) (by decide) (by decide) (Nat.le_of_ble_eq_true rfl) (Nat.le_of_ble_eq_true rfl) dX6_init_55 (fun a25 H ga25 gba25 hh hS => ?_)
  replace h := h a25 ga25
  obtain ⟨m26, em26⟩ : ∃ z : MM, z = nw m24 12 10 a25 := ⟨_, rfl⟩
  rw [← em26] at hh
  replace h := h m26 em26
  obtain ⟨g27, h⟩ := h
  refine xr_putRF (ci := 6) (C := RX6) (T := TX6) (N := 17) hx hb hL6 hown hK hh g27 (by decide) rfl 15 135 rfl rfl (by decide) (by decide) q13 (fun _ h9 => h9) tyX6 tyX6_ok nmX6 rfl hin rfl rfl rfl hS dX6_init_57 (fun H locs hh hS => ?_)
  obtain ⟨m28, em28⟩ : ∃ z : MM, z = sR m26 135 a0 (some a25) := ⟨_, rfl⟩
  rw [← em28] at hh
  replace h := h m28 em28
  refine lv_aload_n hx hb dX6_init_60 rfl (lv_at hl 0 rfl) ?_
  obtain ⟨g29, h⟩ := h
  obtain ⟨b30, eb30, h⟩ := h
  refine xr_getR (ci := 6) (C := RX6) (T := TX6) (N := 17) hx hb hL6 hown hK hh g29 (by decide) rfl 4 124 rfl rfl (by decide) (by decide) q7 (fun _ h9 => h9) eb30 dX6_init_61 ?_
  refine lv_iconst (v := 0) hx hb dX6_init_64 (by decide) ?_
  refine lv_sipush (v := 7200) hx hb dX6_init_65 (by decide) ?_
  obtain ⟨g31, h⟩ := h
  obtain ⟨g32, h⟩ := h
  refine xr_iast hx hb hK hh g31 hS g32 dX6_init_68 (fun H locs hh hS => ?_)
  obtain ⟨m33, em33⟩ : ∃ z : MM, z = sAI m28 b30 (va_up (mAI m28 b30) (0 : Int32).toNatClampNeg (7200 : Int32)) := ⟨_, rfl⟩
  rw [← em33] at hh
  replace h := h m33 em33
  refine lv_aload_n hx hb dX6_init_69 rfl (lv_at hl 0 rfl) ?_
  obtain ⟨g34, h⟩ := h
  obtain ⟨b35, eb35, h⟩ := h
  refine xr_getR (ci := 6) (C := RX6) (T := TX6) (N := 17) hx hb hL6 hown hK hh g34 (by decide) rfl 4 124 rfl rfl (by decide) (by decide) q7 (fun _ h9 => h9) eb35 dX6_init_70 ?_
  refine lv_iconst (v := 1) hx hb dX6_init_73 (by decide) ?_
  refine lv_ldc hx hb hown q14 dX6_init_74 ?_
  obtain ⟨g36, h⟩ := h
  obtain ⟨g37, h⟩ := h
  refine xr_iast hx hb hK hh g36 hS g37 dX6_init_76 (fun H locs hh hS => ?_)
  obtain ⟨m38, em38⟩ : ∃ z : MM, z = sAI m33 b35 (va_up (mAI m33 b35) (1 : Int32).toNatClampNeg (86400 : Int32)) := ⟨_, rfl⟩
  rw [← em38] at hh
  replace h := h m38 em38
  refine lv_aload_n hx hb dX6_init_77 rfl (lv_at hl 0 rfl) ?_
  obtain ⟨g39, h⟩ := h
  obtain ⟨b40, eb40, h⟩ := h
  refine xr_getR (ci := 6) (C := RX6) (T := TX6) (N := 17) hx hb hL6 hown hK hh g39 (by decide) rfl 4 124 rfl rfl (by decide) (by decide) q7 (fun _ h9 => h9) eb40 dX6_init_78 ?_
  refine lv_iconst (v := 2) hx hb dX6_init_81 (by decide) ?_
  refine lv_ldc hx hb hown q15 dX6_init_82 ?_
  obtain ⟨g41, h⟩ := h
  obtain ⟨g42, h⟩ := h
  refine xr_iast hx hb hK hh g41 hS g42 dX6_init_84 (fun H locs hh hS => ?_)
  obtain ⟨m43, em43⟩ : ∃ z : MM, z = sAI m38 b40 (va_up (mAI m38 b40) (2 : Int32).toNatClampNeg (864000 : Int32)) := ⟨_, rfl⟩
  rw [← em43] at hh
  replace h := h m43 em43
  refine lv_aload_n hx hb dX6_init_85 rfl (lv_at hl 0 rfl) ?_
  obtain ⟨g44, h⟩ := h
  obtain ⟨b45, eb45, h⟩ := h
  refine xr_getR (ci := 6) (C := RX6) (T := TX6) (N := 17) hx hb hL6 hown hK hh g44 (by decide) rfl 4 124 rfl rfl (by decide) (by decide) q7 (fun _ h9 => h9) eb45 dX6_init_86 ?_
  refine lv_iconst (v := 3) hx hb dX6_init_89 (by decide) ?_
  refine lv_ldc hx hb hown q16 dX6_init_90 ?_
  obtain ⟨g46, h⟩ := h
  obtain ⟨g47, h⟩ := h
  refine xr_iast hx hb hK hh g46 hS g47 dX6_init_92 (fun H locs hh hS => ?_)
  obtain ⟨m48, em48⟩ : ∃ z : MM, z = sAI m43 b45 (va_up (mAI m43 b45) (3 : Int32).toNatClampNeg (8640000 : Int32)) := ⟨_, rfl⟩
  rw [← em48] at hh
  replace h := h m48 em48
  exact (xe_v hx hb hr hlocks hbase hh hK hX hS h (Nat.le_of_ble_eq_true rfl) (Nat.le_of_ble_eq_true rfl) dX6_init_93)

set_option maxHeartbeats 4000000 in
set_option maxRecDepth 100000 in
theorem mt_X6_isIn (l : Launch) (G : GG) (base : Nat) {p1 : Int32} {p2 : Int32} {p3 : Int32} {m0 : MM} {Q : Int32 → MM → Prop} (h : wp_X6_isIn p1 p2 p3 m0 Q) : Met l yX6_isIn wsX6_isIn ({ frames := 0, cells := 0, slots := 0, locals := 8 }) (va_Pc [.int p1, .int p2, .int p3] (SP G base m0)) (va_Qi Q (HB G base) (xA base)) 0 0 (xA base) := by
  refine Met.ofW (cc := cX6_isIn) (maxL := 3) (ret := (some .boolean)) (by decide) rfl ?_
  intro p e s m args below meth c s₁ B hml hv
  obtain ⟨rfl, hbase, hh, hK, hX⟩ := hv
  have C0 : BC p s m _ meth c G base RX6 cX6_isIn 3 (some .boolean) wsX6_isIn := ⟨B.exec, B.bytes, B.returns, hml, findClass_of_methodNamed B.named, atoms_spec (ws := wsX6_isIn) B.pre, B.notSynchronized, hK, hbase, hX⟩
  obtain ⟨hx, hb, hr, -, hown, hts, hlocks, -, -, -⟩ := id C0
  have hS : va_S (xA base) s.heap s.heap [] := va_S.rf
  have hl := lv_entry ([.int p1, .int p2, .int p3]) (n := 3) (Nat.le_of_ble_eq_true rfl)
  rw [lg_entry_eq]
  generalize (lg_sl ([.int p1, .int p2, .int p3]) ++ List.replicate (3 - (lg_sl ([.int p1, .int p2, .int p3])).length) Slot.unset).toArray = ls at hl ⊢
  have hl : lv_has ls 3 [(0, .int p1), (1, .int p2), (2, .int p3)] := hl
  unfold wp_X6_isIn at h
  refine lv_iload_n hx hb dX6_isIn_0 rfl (lv_at hl 0 rfl) ?_
  refine lv_iload_n hx hb dX6_isIn_1 rfl (lv_at hl 1 rfl) ?_
  refine lv_icmp_lt (tgt := 14) hx hb dX6_isIn_2 (by decide) (fun c1 => ?_) (fun c1 => ?_)
  · replace h := h.1 c1
    refine lv_iconst (v := 0) hx hb dX6_isIn_14 (by decide) ?_
    exact (xe_z hx hb hr hlocks hbase hh hK hX hS (Or.inl rfl) h (Nat.le_of_ble_eq_true rfl) (Nat.le_of_ble_eq_true rfl) dX6_isIn_15)
  · replace h := h.2 c1
    refine lv_iload_n hx hb dX6_isIn_5 rfl (lv_at hl 0 rfl) ?_
    refine lv_iload_n hx hb dX6_isIn_6 rfl (lv_at hl 2 rfl) ?_
    refine lv_icmp_gt (tgt := 14) hx hb dX6_isIn_7 (by decide) (fun c2 => ?_) (fun c2 => ?_)
    · replace h := h.1 c2
      refine lv_iconst (v := 0) hx hb dX6_isIn_14 (by decide) ?_
      exact (xe_z hx hb hr hlocks hbase hh hK hX hS (Or.inl rfl) h (Nat.le_of_ble_eq_true rfl) (Nat.le_of_ble_eq_true rfl) dX6_isIn_15)
    · replace h := h.2 c2
      refine lv_iconst (v := 1) hx hb dX6_isIn_10 (by decide) ?_
      refine lv_goto (tgt := 15) hx hb dX6_isIn_11 (by decide) ?_
      exact (xe_z hx hb hr hlocks hbase hh hK hX hS (Or.inr rfl) h (Nat.le_of_ble_eq_true rfl) (Nat.le_of_ble_eq_true rfl) dX6_isIn_15)

set_option maxHeartbeats 4000000 in
set_option maxRecDepth 100000 in
theorem mt_X6_can (l : Launch) (G : GG) (base : Nat) {a0 : Nat} {p1 : Int32} {m0 : MM} {Q : Int32 → MM → Prop} (h : wp_X6_can a0 p1 m0 Q) : Met l yX6_can wsX6_can ({ frames := 0, cells := 0, slots := 0, locals := 8 }) (va_Pc [.ref a0, .int p1] (SP G base m0)) (va_Qi Q (HB G base) (xA base)) 0 0 (xA base) := by
  refine Met.ofW (cc := cX6_can) (maxL := 2) (ret := (some .boolean)) (by decide) rfl ?_
  intro p e s m args below meth c s₁ B hml hv
  obtain ⟨rfl, hbase, hh, hK, hX⟩ := hv
  have C0 : BC p s m _ meth c G base RX6 cX6_can 2 (some .boolean) wsX6_can := ⟨B.exec, B.bytes, B.returns, hml, findClass_of_methodNamed B.named, atoms_spec (ws := wsX6_can) B.pre, B.notSynchronized, hK, hbase, hX⟩
  obtain ⟨hx, hb, hr, -, hown, hts, hlocks, -, -, -⟩ := id C0
  have hS : va_S (xA base) s.heap s.heap [] := va_S.rf
  have hl := lv_entry ([.ref a0, .int p1]) (n := 2) (Nat.le_of_ble_eq_true rfl)
  rw [lg_entry_eq]
  generalize (lg_sl ([.ref a0, .int p1]) ++ List.replicate (2 - (lg_sl ([.ref a0, .int p1])).length) Slot.unset).toArray = ls at hl ⊢
  have hl : lv_has ls 2 [(0, .ref a0), (1, .int p1)] := hl
  unfold wp_X6_can at h
  have hL6 : ∀ w ∈ u_ws RX6 TX6 17, w.before _ s = true := fun w h9 => hts w (List.mem_cons_of_mem _ (List.mem_append_right _ (h9)))
  have q2 : (Cond.fieldLink RX6 35 "RollupStoreModel" "thrown" "I").before _ s = true := hts _ (List.mem_cons_of_mem _ (List.mem_append_left _ (List.mem_of_getElem? (i := 0) rfl)))
  refine lv_aload_n hx hb dX6_can_0 rfl (lv_at hl 0 rfl) ?_
  refine lv_iload_n hx hb dX6_can_1 rfl (lv_at hl 1 rfl) ?_
  obtain ⟨g1, h⟩ := h
  refine xr_putI (ci := 6) (C := RX6) (T := TX6) (N := 17) hx hb hL6 hown hK hh g1 (by decide) rfl 16 136 rfl rfl (by decide) (by decide) q2 (fun _ h9 => h9) tyX6 tyX6_ok nmX6 rfl rfl rfl hS dX6_can_2 (fun H locs hh hS => ?_)
  obtain ⟨m2, em2⟩ : ∃ z : MM, z = sI m0 136 a0 p1 := ⟨_, rfl⟩
  rw [← em2] at hh
  replace h := h m2 em2
  refine lv_iload_n hx hb dX6_can_5 rfl (lv_at hl 1 rfl) ?_
  refine lv_if_ne (tgt := 13) hx hb dX6_can_6 (by decide) (fun c3 => ?_) (fun c3 => ?_)
  · replace h := h.1 c3
    refine lv_iconst (v := 0) hx hb dX6_can_13 (by decide) ?_
    exact (xe_z hx hb hr hlocks hbase hh hK hX hS (Or.inl rfl) h (Nat.le_of_ble_eq_true rfl) (Nat.le_of_ble_eq_true rfl) dX6_can_14)
  · replace h := h.2 c3
    refine lv_iconst (v := 1) hx hb dX6_can_9 (by decide) ?_
    refine lv_goto (tgt := 14) hx hb dX6_can_10 (by decide) ?_
    exact (xe_z hx hb hr hlocks hbase hh hK hX hS (Or.inr rfl) h (Nat.le_of_ble_eq_true rfl) (Nat.le_of_ble_eq_true rfl) dX6_can_14)

set_option maxHeartbeats 4000000 in
set_option maxRecDepth 100000 in
theorem mt_X6_addSeries (l : Launch) (G : GG) (base : Nat) {a0 : Nat} {p1 : Int32} {m0 : MM} {Q : Int32 → MM → Prop} (h : wp_X6_addSeries a0 p1 m0 Q) : Met l yX6_addSeries wsX6_addSeries ({ frames := 1, cells := 0, slots := 0, locals := 30 }) (va_Pc [.ref a0, .int p1] (SP G base m0)) (va_Qi Q (HB G base) (xA base)) 0 0 (xA base) := by
  refine Met.ofW (cc := cX6_addSeries) (maxL := 2) (ret := (some .int)) (by decide) rfl ?_
  intro p e s m args below meth c s₁ B hml hv
  obtain ⟨rfl, hbase, hh, hK, hX⟩ := hv
  have C0 : BC p s m _ meth c G base RX6 cX6_addSeries 2 (some .int) wsX6_addSeries := ⟨B.exec, B.bytes, B.returns, hml, findClass_of_methodNamed B.named, atoms_spec (ws := wsX6_addSeries) B.pre, B.notSynchronized, hK, hbase, hX⟩
  obtain ⟨hx, hb, hr, -, hown, hts, hlocks, -, -, -⟩ := id C0
  have hS : va_S (xA base) s.heap s.heap [] := va_S.rf
  have hl := lv_entry ([.ref a0, .int p1]) (n := 2) (Nat.le_of_ble_eq_true rfl)
  rw [lg_entry_eq]
  generalize (lg_sl ([.ref a0, .int p1]) ++ List.replicate (2 - (lg_sl ([.ref a0, .int p1])).length) Slot.unset).toArray = ls at hl ⊢
  have hl : lv_has ls 2 [(0, .ref a0), (1, .int p1)] := hl
  unfold wp_X6_addSeries at h
  have hL6 : ∀ w ∈ u_ws RX6 TX6 17, w.before _ s = true := fun w h9 => hts w (List.mem_cons_of_mem _ (List.mem_append_right _ (h9)))
  have q2 : (Cond.fieldLink RX6 39 "RollupStoreModel" "series" "I").before _ s = true := hts _ (List.mem_cons_of_mem _ (List.mem_append_left _ (List.mem_of_getElem? (i := 0) rfl)))
  have q3 : (Cond.fieldLink RX6 7 "RollupStoreModel" "kind" "[I").before _ s = true := hts _ (List.mem_cons_of_mem _ (List.mem_append_left _ (List.mem_of_getElem? (i := 1) rfl)))
  refine lv_aload_n hx hb dX6_addSeries_0 rfl (lv_at hl 0 rfl) ?_
  refine lv_iload_n hx hb dX6_addSeries_1 rfl (lv_at hl 1 rfl) ?_
  refine lv_iconst (v := 0) hx hb dX6_addSeries_2 (by decide) ?_
  refine lv_iconst (v := 1) hx hb dX6_addSeries_3 (by decide) ?_
  refine xc_i (va_runS (As := [.int p1, .int (0 : Int32), .int (1 : Int32)]) (rest := [.ref a0]) ⟨hx, hb, hml, hown, hts⟩ (mt_X6_isIn l G base h) (va_cwS 3 hts gX6_addSeries_X6_isIn rfl rfl rfl (by decide +kernel) ⟨Nat.le_of_ble_eq_true rfl, Nat.le_of_ble_eq_true rfl⟩) (xp_S hbase hh hK hX hS) rfl rfl hl.1 rfl (lv_room (Nat.le_of_ble_eq_true rfl)) dX6_addSeries_4 ⟨Nat.le_of_ble_eq_true rfl, Nat.le_of_ble_eq_true rfl⟩) hS (fun r1 m2 H locs h hh hS => ?_)
  refine lv_if_ne (tgt := 14) hx hb dX6_addSeries_7 (by decide) (fun c3 => ?_) (fun c3 => ?_)
  · replace h := h.1 c3
    refine lv_aload_n hx hb dX6_addSeries_14 rfl (lv_at hl 0 rfl) ?_
    obtain ⟨g4, h⟩ := h
    refine xr_getI (ci := 6) (C := RX6) (T := TX6) (N := 17) hx hb hL6 hown hK hh g4 (by decide) rfl 1 121 rfl rfl (by decide) (by decide) q2 (fun _ h9 => h9) dX6_addSeries_15 ?_
    refine lv_iconst (v := 4) hx hb dX6_addSeries_18 (by decide) ?_
    refine lv_icmp_ne (tgt := 26) hx hb dX6_addSeries_19 (by decide) (fun c5 => ?_) (fun c5 => ?_)
    · replace h := h.1 c5
      refine lv_iconst (v := 0) hx hb dX6_addSeries_26 (by decide) ?_
      obtain ⟨g6, h⟩ := h
      refine xc_i (va_runV (As := [.int (0 : Int32)]) (rest := []) ⟨hx, hb, hml, hown, hts⟩ (mt_X6_can l G base h) (cwV 1 hts gX6_addSeries_X6_can rfl rfl rfl (by decide +kernel) ⟨Nat.le_of_ble_eq_true rfl, Nat.le_of_ble_eq_true rfl⟩) (xp_V hbase hh hK hX hS (ci := 6) g6 (by decide) rfl) rfl rfl hl.1 rfl (lv_room (Nat.le_of_ble_eq_true rfl)) dX6_addSeries_27 ⟨Nat.le_of_ble_eq_true rfl, Nat.le_of_ble_eq_true rfl⟩) hS (fun r7 m8 H locs h hh hS => ?_)
      refine lv_if_ne (tgt := 35) hx hb dX6_addSeries_30 (by decide) (fun c9 => ?_) (fun c9 => ?_)
      · replace h := h.1 c9
        refine lv_aload_n hx hb dX6_addSeries_35 rfl (lv_at hl 0 rfl) ?_
        obtain ⟨g10, h⟩ := h
        obtain ⟨b11, eb11, h⟩ := h
        refine xr_getR (ci := 6) (C := RX6) (T := TX6) (N := 17) hx hb hL6 hown hK hh g10 (by decide) rfl 3 123 rfl rfl (by decide) (by decide) q3 (fun _ h9 => h9) eb11 dX6_addSeries_36 ?_
        refine lv_aload_n hx hb dX6_addSeries_39 rfl (lv_at hl 0 rfl) ?_
        obtain ⟨g12, h⟩ := h
        refine xr_getI (ci := 6) (C := RX6) (T := TX6) (N := 17) hx hb hL6 hown hK hh g12 (by decide) rfl 1 121 rfl rfl (by decide) (by decide) q2 (fun _ h9 => h9) dX6_addSeries_40 ?_
        refine lv_iload_n hx hb dX6_addSeries_43 rfl (lv_at hl 1 rfl) ?_
        obtain ⟨g13, h⟩ := h
        obtain ⟨g14, h⟩ := h
        refine xr_iast hx hb hK hh g13 hS g14 dX6_addSeries_44 (fun H locs hh hS => ?_)
        obtain ⟨m15, em15⟩ : ∃ z : MM, z = sAI m8 b11 (va_up (mAI m8 b11) (mI m8 121 a0).toNatClampNeg p1) := ⟨_, rfl⟩
        rw [← em15] at hh
        replace h := h m15 em15
        refine lv_aload_n hx hb dX6_addSeries_45 rfl (lv_at hl 0 rfl) ?_
        refine lv_dup hx hb dX6_addSeries_46 rfl ?_
        obtain ⟨g16, h⟩ := h
        refine xr_getI (ci := 6) (C := RX6) (T := TX6) (N := 17) hx hb hL6 hown hK hh g16 (by decide) rfl 1 121 rfl rfl (by decide) (by decide) q2 (fun _ h9 => h9) dX6_addSeries_47 ?_
        refine lv_iconst (v := 1) hx hb dX6_addSeries_50 (by decide) ?_
        refine lv_iadd hx hb dX6_addSeries_51 ?_
        obtain ⟨g17, h⟩ := h
        refine xr_putI (ci := 6) (C := RX6) (T := TX6) (N := 17) hx hb hL6 hown hK hh g17 (by decide) rfl 1 121 rfl rfl (by decide) (by decide) q2 (fun _ h9 => h9) tyX6 tyX6_ok nmX6 rfl rfl rfl hS dX6_addSeries_52 (fun H locs hh hS => ?_)
        obtain ⟨m18, em18⟩ : ∃ z : MM, z = sI m15 121 a0 ((mI m15 121 a0) + (1 : Int32)) := ⟨_, rfl⟩
        rw [← em18] at hh
        replace h := h m18 em18
        refine lv_aload_n hx hb dX6_addSeries_55 rfl (lv_at hl 0 rfl) ?_
        obtain ⟨g19, h⟩ := h
        refine xr_getI (ci := 6) (C := RX6) (T := TX6) (N := 17) hx hb hL6 hown hK hh g19 (by decide) rfl 1 121 rfl rfl (by decide) (by decide) q2 (fun _ h9 => h9) dX6_addSeries_56 ?_
        refine lv_iconst (v := 1) hx hb dX6_addSeries_59 (by decide) ?_
        refine lv_isub hx hb dX6_addSeries_60 ?_
        exact (xe_i hx hb hr hlocks hbase hh hK hX hS h (Nat.le_of_ble_eq_true rfl) (Nat.le_of_ble_eq_true rfl) dX6_addSeries_61)
      · replace h := h.2 c9
        refine lv_iconst (v := 0) hx hb dX6_addSeries_33 (by decide) ?_
        exact (xe_i hx hb hr hlocks hbase hh hK hX hS h (Nat.le_of_ble_eq_true rfl) (Nat.le_of_ble_eq_true rfl) dX6_addSeries_34)
    · replace h := h.2 c5
      refine lv_iconst (v := 2) hx hb dX6_addSeries_22 (by decide) ?_
      refine lv_goto (tgt := 27) hx hb dX6_addSeries_23 (by decide) ?_
      obtain ⟨g20, h⟩ := h
      refine xc_i (va_runV (As := [.int (2 : Int32)]) (rest := []) ⟨hx, hb, hml, hown, hts⟩ (mt_X6_can l G base h) (cwV 1 hts gX6_addSeries_X6_can rfl rfl rfl (by decide +kernel) ⟨Nat.le_of_ble_eq_true rfl, Nat.le_of_ble_eq_true rfl⟩) (xp_V hbase hh hK hX hS (ci := 6) g20 (by decide) rfl) rfl rfl hl.1 rfl (lv_room (Nat.le_of_ble_eq_true rfl)) dX6_addSeries_27 ⟨Nat.le_of_ble_eq_true rfl, Nat.le_of_ble_eq_true rfl⟩) hS (fun r21 m22 H locs h hh hS => ?_)
      refine lv_if_ne (tgt := 35) hx hb dX6_addSeries_30 (by decide) (fun c23 => ?_) (fun c23 => ?_)
      · replace h := h.1 c23
        refine lv_aload_n hx hb dX6_addSeries_35 rfl (lv_at hl 0 rfl) ?_
        obtain ⟨g24, h⟩ := h
        obtain ⟨b25, eb25, h⟩ := h
        refine xr_getR (ci := 6) (C := RX6) (T := TX6) (N := 17) hx hb hL6 hown hK hh g24 (by decide) rfl 3 123 rfl rfl (by decide) (by decide) q3 (fun _ h9 => h9) eb25 dX6_addSeries_36 ?_
        refine lv_aload_n hx hb dX6_addSeries_39 rfl (lv_at hl 0 rfl) ?_
        obtain ⟨g26, h⟩ := h
        refine xr_getI (ci := 6) (C := RX6) (T := TX6) (N := 17) hx hb hL6 hown hK hh g26 (by decide) rfl 1 121 rfl rfl (by decide) (by decide) q2 (fun _ h9 => h9) dX6_addSeries_40 ?_
        refine lv_iload_n hx hb dX6_addSeries_43 rfl (lv_at hl 1 rfl) ?_
        obtain ⟨g27, h⟩ := h
        obtain ⟨g28, h⟩ := h
        refine xr_iast hx hb hK hh g27 hS g28 dX6_addSeries_44 (fun H locs hh hS => ?_)
        obtain ⟨m29, em29⟩ : ∃ z : MM, z = sAI m22 b25 (va_up (mAI m22 b25) (mI m22 121 a0).toNatClampNeg p1) := ⟨_, rfl⟩
        rw [← em29] at hh
        replace h := h m29 em29
        refine lv_aload_n hx hb dX6_addSeries_45 rfl (lv_at hl 0 rfl) ?_
        refine lv_dup hx hb dX6_addSeries_46 rfl ?_
        obtain ⟨g30, h⟩ := h
        refine xr_getI (ci := 6) (C := RX6) (T := TX6) (N := 17) hx hb hL6 hown hK hh g30 (by decide) rfl 1 121 rfl rfl (by decide) (by decide) q2 (fun _ h9 => h9) dX6_addSeries_47 ?_
        refine lv_iconst (v := 1) hx hb dX6_addSeries_50 (by decide) ?_
        refine lv_iadd hx hb dX6_addSeries_51 ?_
        obtain ⟨g31, h⟩ := h
        refine xr_putI (ci := 6) (C := RX6) (T := TX6) (N := 17) hx hb hL6 hown hK hh g31 (by decide) rfl 1 121 rfl rfl (by decide) (by decide) q2 (fun _ h9 => h9) tyX6 tyX6_ok nmX6 rfl rfl rfl hS dX6_addSeries_52 (fun H locs hh hS => ?_)
        obtain ⟨m32, em32⟩ : ∃ z : MM, z = sI m29 121 a0 ((mI m29 121 a0) + (1 : Int32)) := ⟨_, rfl⟩
        rw [← em32] at hh
        replace h := h m32 em32
        refine lv_aload_n hx hb dX6_addSeries_55 rfl (lv_at hl 0 rfl) ?_
        obtain ⟨g33, h⟩ := h
        refine xr_getI (ci := 6) (C := RX6) (T := TX6) (N := 17) hx hb hL6 hown hK hh g33 (by decide) rfl 1 121 rfl rfl (by decide) (by decide) q2 (fun _ h9 => h9) dX6_addSeries_56 ?_
        refine lv_iconst (v := 1) hx hb dX6_addSeries_59 (by decide) ?_
        refine lv_isub hx hb dX6_addSeries_60 ?_
        exact (xe_i hx hb hr hlocks hbase hh hK hX hS h (Nat.le_of_ble_eq_true rfl) (Nat.le_of_ble_eq_true rfl) dX6_addSeries_61)
      · replace h := h.2 c23
        refine lv_iconst (v := 0) hx hb dX6_addSeries_33 (by decide) ?_
        exact (xe_i hx hb hr hlocks hbase hh hK hX hS h (Nat.le_of_ble_eq_true rfl) (Nat.le_of_ble_eq_true rfl) dX6_addSeries_34)
  · replace h := h.2 c3
    refine lv_iconst (v := 1) hx hb dX6_addSeries_10 (by decide) ?_
    refine lv_goto (tgt := 27) hx hb dX6_addSeries_11 (by decide) ?_
    obtain ⟨g34, h⟩ := h
    refine xc_i (va_runV (As := [.int (1 : Int32)]) (rest := []) ⟨hx, hb, hml, hown, hts⟩ (mt_X6_can l G base h) (cwV 1 hts gX6_addSeries_X6_can rfl rfl rfl (by decide +kernel) ⟨Nat.le_of_ble_eq_true rfl, Nat.le_of_ble_eq_true rfl⟩) (xp_V hbase hh hK hX hS (ci := 6) g34 (by decide) rfl) rfl rfl hl.1 rfl (lv_room (Nat.le_of_ble_eq_true rfl)) dX6_addSeries_27 ⟨Nat.le_of_ble_eq_true rfl, Nat.le_of_ble_eq_true rfl⟩) hS (fun r35 m36 H locs h hh hS => ?_)
    refine lv_if_ne (tgt := 35) hx hb dX6_addSeries_30 (by decide) (fun c37 => ?_) (fun c37 => ?_)
    · replace h := h.1 c37
      refine lv_aload_n hx hb dX6_addSeries_35 rfl (lv_at hl 0 rfl) ?_
      obtain ⟨g38, h⟩ := h
      obtain ⟨b39, eb39, h⟩ := h
      refine xr_getR (ci := 6) (C := RX6) (T := TX6) (N := 17) hx hb hL6 hown hK hh g38 (by decide) rfl 3 123 rfl rfl (by decide) (by decide) q3 (fun _ h9 => h9) eb39 dX6_addSeries_36 ?_
      refine lv_aload_n hx hb dX6_addSeries_39 rfl (lv_at hl 0 rfl) ?_
      obtain ⟨g40, h⟩ := h
      refine xr_getI (ci := 6) (C := RX6) (T := TX6) (N := 17) hx hb hL6 hown hK hh g40 (by decide) rfl 1 121 rfl rfl (by decide) (by decide) q2 (fun _ h9 => h9) dX6_addSeries_40 ?_
      refine lv_iload_n hx hb dX6_addSeries_43 rfl (lv_at hl 1 rfl) ?_
      obtain ⟨g41, h⟩ := h
      obtain ⟨g42, h⟩ := h
      refine xr_iast hx hb hK hh g41 hS g42 dX6_addSeries_44 (fun H locs hh hS => ?_)
      obtain ⟨m43, em43⟩ : ∃ z : MM, z = sAI m36 b39 (va_up (mAI m36 b39) (mI m36 121 a0).toNatClampNeg p1) := ⟨_, rfl⟩
      rw [← em43] at hh
      replace h := h m43 em43
      refine lv_aload_n hx hb dX6_addSeries_45 rfl (lv_at hl 0 rfl) ?_
      refine lv_dup hx hb dX6_addSeries_46 rfl ?_
      obtain ⟨g44, h⟩ := h
      refine xr_getI (ci := 6) (C := RX6) (T := TX6) (N := 17) hx hb hL6 hown hK hh g44 (by decide) rfl 1 121 rfl rfl (by decide) (by decide) q2 (fun _ h9 => h9) dX6_addSeries_47 ?_
      refine lv_iconst (v := 1) hx hb dX6_addSeries_50 (by decide) ?_
      refine lv_iadd hx hb dX6_addSeries_51 ?_
      obtain ⟨g45, h⟩ := h
      refine xr_putI (ci := 6) (C := RX6) (T := TX6) (N := 17) hx hb hL6 hown hK hh g45 (by decide) rfl 1 121 rfl rfl (by decide) (by decide) q2 (fun _ h9 => h9) tyX6 tyX6_ok nmX6 rfl rfl rfl hS dX6_addSeries_52 (fun H locs hh hS => ?_)
      obtain ⟨m46, em46⟩ : ∃ z : MM, z = sI m43 121 a0 ((mI m43 121 a0) + (1 : Int32)) := ⟨_, rfl⟩
      rw [← em46] at hh
      replace h := h m46 em46
      refine lv_aload_n hx hb dX6_addSeries_55 rfl (lv_at hl 0 rfl) ?_
      obtain ⟨g47, h⟩ := h
      refine xr_getI (ci := 6) (C := RX6) (T := TX6) (N := 17) hx hb hL6 hown hK hh g47 (by decide) rfl 1 121 rfl rfl (by decide) (by decide) q2 (fun _ h9 => h9) dX6_addSeries_56 ?_
      refine lv_iconst (v := 1) hx hb dX6_addSeries_59 (by decide) ?_
      refine lv_isub hx hb dX6_addSeries_60 ?_
      exact (xe_i hx hb hr hlocks hbase hh hK hX hS h (Nat.le_of_ble_eq_true rfl) (Nat.le_of_ble_eq_true rfl) dX6_addSeries_61)
    · replace h := h.2 c37
      refine lv_iconst (v := 0) hx hb dX6_addSeries_33 (by decide) ?_
      exact (xe_i hx hb hr hlocks hbase hh hK hX hS h (Nat.le_of_ble_eq_true rfl) (Nat.le_of_ble_eq_true rfl) dX6_addSeries_34)

set_option maxHeartbeats 4000000 in
set_option maxRecDepth 100000 in
theorem mt_X6_thrown (l : Launch) (G : GG) (base : Nat) {a0 : Nat} {m0 : MM} {Q : Int32 → MM → Prop} (h : wp_X6_thrown a0 m0 Q) : Met l yX6_thrown wsX6_thrown ({ frames := 0, cells := 0, slots := 0, locals := 8 }) (va_Pc [.ref a0] (SP G base m0)) (va_Qi Q (HB G base) (xA base)) 0 0 (xA base) := by
  refine Met.ofW (cc := cX6_thrown) (maxL := 1) (ret := (some .int)) (by decide) rfl ?_
  intro p e s m args below meth c s₁ B hml hv
  obtain ⟨rfl, hbase, hh, hK, hX⟩ := hv
  have C0 : BC p s m _ meth c G base RX6 cX6_thrown 1 (some .int) wsX6_thrown := ⟨B.exec, B.bytes, B.returns, hml, findClass_of_methodNamed B.named, atoms_spec (ws := wsX6_thrown) B.pre, B.notSynchronized, hK, hbase, hX⟩
  obtain ⟨hx, hb, hr, -, hown, hts, hlocks, -, -, -⟩ := id C0
  have hS : va_S (xA base) s.heap s.heap [] := va_S.rf
  have hl := lv_entry ([.ref a0]) (n := 1) (Nat.le_of_ble_eq_true rfl)
  rw [lg_entry_eq]
  generalize (lg_sl ([.ref a0]) ++ List.replicate (1 - (lg_sl ([.ref a0])).length) Slot.unset).toArray = ls at hl ⊢
  have hl : lv_has ls 1 [(0, .ref a0)] := hl
  unfold wp_X6_thrown at h
  have hL6 : ∀ w ∈ u_ws RX6 TX6 17, w.before _ s = true := fun w h9 => hts w (List.mem_cons_of_mem _ (List.mem_append_right _ (h9)))
  have q2 : (Cond.fieldLink RX6 35 "RollupStoreModel" "thrown" "I").before _ s = true := hts _ (List.mem_cons_of_mem _ (List.mem_append_left _ (List.mem_of_getElem? (i := 0) rfl)))
  refine lv_aload_n hx hb dX6_thrown_0 rfl (lv_at hl 0 rfl) ?_
  obtain ⟨g1, h⟩ := h
  refine xr_getI (ci := 6) (C := RX6) (T := TX6) (N := 17) hx hb hL6 hown hK hh g1 (by decide) rfl 16 136 rfl rfl (by decide) (by decide) q2 (fun _ h9 => h9) dX6_thrown_1 ?_
  exact (xe_i hx hb hr hlocks hbase hh hK hX hS h (Nat.le_of_ble_eq_true rfl) (Nat.le_of_ble_eq_true rfl) dX6_thrown_4)

set_option maxHeartbeats 4000000 in
set_option maxRecDepth 100000 in
theorem mt_X6_isSeries (l : Launch) (G : GG) (base : Nat) {a0 : Nat} {p1 : Int32} {m0 : MM} {Q : Int32 → MM → Prop} (h : wp_X6_isSeries a0 p1 m0 Q) : Met l yX6_isSeries wsX6_isSeries ({ frames := 0, cells := 0, slots := 0, locals := 8 }) (va_Pc [.ref a0, .int p1] (SP G base m0)) (va_Qi Q (HB G base) (xA base)) 0 0 (xA base) := by
  refine Met.ofW (cc := cX6_isSeries) (maxL := 2) (ret := (some .boolean)) (by decide) rfl ?_
  intro p e s m args below meth c s₁ B hml hv
  obtain ⟨rfl, hbase, hh, hK, hX⟩ := hv
  have C0 : BC p s m _ meth c G base RX6 cX6_isSeries 2 (some .boolean) wsX6_isSeries := ⟨B.exec, B.bytes, B.returns, hml, findClass_of_methodNamed B.named, atoms_spec (ws := wsX6_isSeries) B.pre, B.notSynchronized, hK, hbase, hX⟩
  obtain ⟨hx, hb, hr, -, hown, hts, hlocks, -, -, -⟩ := id C0
  have hS : va_S (xA base) s.heap s.heap [] := va_S.rf
  have hl := lv_entry ([.ref a0, .int p1]) (n := 2) (Nat.le_of_ble_eq_true rfl)
  rw [lg_entry_eq]
  generalize (lg_sl ([.ref a0, .int p1]) ++ List.replicate (2 - (lg_sl ([.ref a0, .int p1])).length) Slot.unset).toArray = ls at hl ⊢
  have hl : lv_has ls 2 [(0, .ref a0), (1, .int p1)] := hl
  unfold wp_X6_isSeries at h
  have hL6 : ∀ w ∈ u_ws RX6 TX6 17, w.before _ s = true := fun w h9 => hts w (List.mem_cons_of_mem _ (List.mem_append_right _ (h9)))
  have q2 : (Cond.fieldLink RX6 39 "RollupStoreModel" "series" "I").before _ s = true := hts _ (List.mem_cons_of_mem _ (List.mem_append_left _ (List.mem_of_getElem? (i := 0) rfl)))
  refine lv_iload_n hx hb dX6_isSeries_0 rfl (lv_at hl 1 rfl) ?_
  refine lv_if_lt (tgt := 16) hx hb dX6_isSeries_1 (by decide) (fun c1 => ?_) (fun c1 => ?_)
  · replace h := h.1 c1
    refine lv_iconst (v := 0) hx hb dX6_isSeries_16 (by decide) ?_
    exact (xe_z hx hb hr hlocks hbase hh hK hX hS (Or.inl rfl) h (Nat.le_of_ble_eq_true rfl) (Nat.le_of_ble_eq_true rfl) dX6_isSeries_17)
  · replace h := h.2 c1
    refine lv_iload_n hx hb dX6_isSeries_4 rfl (lv_at hl 1 rfl) ?_
    refine lv_aload_n hx hb dX6_isSeries_5 rfl (lv_at hl 0 rfl) ?_
    obtain ⟨g2, h⟩ := h
    refine xr_getI (ci := 6) (C := RX6) (T := TX6) (N := 17) hx hb hL6 hown hK hh g2 (by decide) rfl 1 121 rfl rfl (by decide) (by decide) q2 (fun _ h9 => h9) dX6_isSeries_6 ?_
    refine lv_icmp_ge (tgt := 16) hx hb dX6_isSeries_9 (by decide) (fun c3 => ?_) (fun c3 => ?_)
    · replace h := h.1 c3
      refine lv_iconst (v := 0) hx hb dX6_isSeries_16 (by decide) ?_
      exact (xe_z hx hb hr hlocks hbase hh hK hX hS (Or.inl rfl) h (Nat.le_of_ble_eq_true rfl) (Nat.le_of_ble_eq_true rfl) dX6_isSeries_17)
    · replace h := h.2 c3
      refine lv_iconst (v := 1) hx hb dX6_isSeries_12 (by decide) ?_
      refine lv_goto (tgt := 17) hx hb dX6_isSeries_13 (by decide) ?_
      exact (xe_z hx hb hr hlocks hbase hh hK hX hS (Or.inr rfl) h (Nat.le_of_ble_eq_true rfl) (Nat.le_of_ble_eq_true rfl) dX6_isSeries_17)

set_option maxHeartbeats 4000000 in
set_option maxRecDepth 100000 in
theorem mt_X6_isValue (l : Launch) (G : GG) (base : Nat) {a0 : Nat} {p1 : Int32} {p2 : Int32} {m0 : MM} {Q : Int32 → MM → Prop} (h : wp_X6_isValue a0 p1 p2 m0 Q) : Met l yX6_isValue wsX6_isValue ({ frames := 1, cells := 0, slots := 0, locals := 30 }) (va_Pc [.ref a0, .int p1, .int p2] (SP G base m0)) (va_Qi Q (HB G base) (xA base)) 0 0 (xA base) := by
  refine Met.ofW (cc := cX6_isValue) (maxL := 3) (ret := (some .boolean)) (by decide) rfl ?_
  intro p e s m args below meth c s₁ B hml hv
  obtain ⟨rfl, hbase, hh, hK, hX⟩ := hv
  have C0 : BC p s m _ meth c G base RX6 cX6_isValue 3 (some .boolean) wsX6_isValue := ⟨B.exec, B.bytes, B.returns, hml, findClass_of_methodNamed B.named, atoms_spec (ws := wsX6_isValue) B.pre, B.notSynchronized, hK, hbase, hX⟩
  obtain ⟨hx, hb, hr, -, hown, hts, hlocks, -, -, -⟩ := id C0
  have hS : va_S (xA base) s.heap s.heap [] := va_S.rf
  have hl := lv_entry ([.ref a0, .int p1, .int p2]) (n := 3) (Nat.le_of_ble_eq_true rfl)
  rw [lg_entry_eq]
  generalize (lg_sl ([.ref a0, .int p1, .int p2]) ++ List.replicate (3 - (lg_sl ([.ref a0, .int p1, .int p2])).length) Slot.unset).toArray = ls at hl ⊢
  have hl : lv_has ls 3 [(0, .ref a0), (1, .int p1), (2, .int p2)] := hl
  unfold wp_X6_isValue at h
  have hL6 : ∀ w ∈ u_ws RX6 TX6 17, w.before _ s = true := fun w h9 => hts w (List.mem_cons_of_mem _ (List.mem_append_right _ (h9)))
  have q2 : (Cond.fieldLink RX6 7 "RollupStoreModel" "kind" "[I").before _ s = true := hts _ (List.mem_cons_of_mem _ (List.mem_append_left _ (List.mem_of_getElem? (i := 0) rfl)))
  have q3 : (Cond.constant RX6 57 (-1000000)).before _ s = true := hts _ (List.mem_cons_of_mem _ (List.mem_append_left _ (List.mem_of_getElem? (i := 1) rfl)))
  have q4 : (Cond.constant RX6 58 (1000000)).before _ s = true := hts _ (List.mem_cons_of_mem _ (List.mem_append_left _ (List.mem_of_getElem? (i := 2) rfl)))
  refine lv_iload_n hx hb dX6_isValue_0 rfl (lv_at hl 2 rfl) ?_
  refine lv_aload_n hx hb dX6_isValue_1 rfl (lv_at hl 0 rfl) ?_
  obtain ⟨g1, h⟩ := h
  obtain ⟨b2, eb2, h⟩ := h
  refine xr_getR (ci := 6) (C := RX6) (T := TX6) (N := 17) hx hb hL6 hown hK hh g1 (by decide) rfl 3 123 rfl rfl (by decide) (by decide) q2 (fun _ h9 => h9) eb2 dX6_isValue_2 ?_
  refine lv_iload_n hx hb dX6_isValue_5 rfl (lv_at hl 1 rfl) ?_
  obtain ⟨g3, h⟩ := h
  obtain ⟨g4, h⟩ := h
  refine xr_iald hx hb hK hh g3 g4 dX6_isValue_6 ?_
  refine lv_iconst (v := 1) hx hb dX6_isValue_7 (by decide) ?_
  refine lv_icmp_ne (tgt := 15) hx hb dX6_isValue_8 (by decide) (fun c5 => ?_) (fun c5 => ?_)
  · replace h := h.1 c5
    refine lv_ldc hx hb hown q3 dX6_isValue_15 ?_
    refine lv_ldc hx hb hown q4 dX6_isValue_17 ?_
    refine xc_i (va_runS (As := [.int p2, .int (-1000000 : Int32), .int (1000000 : Int32)]) (rest := []) ⟨hx, hb, hml, hown, hts⟩ (mt_X6_isIn l G base h) (va_cwS 3 hts gX6_isValue_X6_isIn rfl rfl rfl (by decide +kernel) ⟨Nat.le_of_ble_eq_true rfl, Nat.le_of_ble_eq_true rfl⟩) (xp_S hbase hh hK hX hS) rfl rfl hl.1 rfl (lv_room (Nat.le_of_ble_eq_true rfl)) dX6_isValue_19 ⟨Nat.le_of_ble_eq_true rfl, Nat.le_of_ble_eq_true rfl⟩) hS (fun r6 m7 H locs h hh hS => ?_)
    exact (xe_z hx hb hr hlocks hbase hh hK hX hS h.1 h.2 (Nat.le_of_ble_eq_true rfl) (Nat.le_of_ble_eq_true rfl) dX6_isValue_22)
  · replace h := h.2 c5
    refine lv_iconst (v := 0) hx hb dX6_isValue_11 (by decide) ?_
    refine lv_goto (tgt := 17) hx hb dX6_isValue_12 (by decide) ?_
    refine lv_ldc hx hb hown q4 dX6_isValue_17 ?_
    refine xc_i (va_runS (As := [.int p2, .int (0 : Int32), .int (1000000 : Int32)]) (rest := []) ⟨hx, hb, hml, hown, hts⟩ (mt_X6_isIn l G base h) (va_cwS 3 hts gX6_isValue_X6_isIn rfl rfl rfl (by decide +kernel) ⟨Nat.le_of_ble_eq_true rfl, Nat.le_of_ble_eq_true rfl⟩) (xp_S hbase hh hK hX hS) rfl rfl hl.1 rfl (lv_room (Nat.le_of_ble_eq_true rfl)) dX6_isValue_19 ⟨Nat.le_of_ble_eq_true rfl, Nat.le_of_ble_eq_true rfl⟩) hS (fun r8 m9 H locs h hh hS => ?_)
    exact (xe_z hx hb hr hlocks hbase hh hK hX hS h.1 h.2 (Nat.le_of_ble_eq_true rfl) (Nat.le_of_ble_eq_true rfl) dX6_isValue_22)

set_option maxHeartbeats 4000000 in
set_option maxRecDepth 100000 in
theorem bk_X6_place_2 {p : Program} {l : Launch} {e : Env} {s : State} {m : MethodId} {args : Array Value} {below : List Frame} {meth : Method} {c : Code} {G : GG} {base : Nat} (C0 : BC p s m args meth c G base RX6 cX6_place 4 (some .int) wsX6_place) {Q : Int32 → MM → Prop} : ∀ (n : Nat) (l0 : Nat) (l1 : Int32) (l2 : Int32) (l3 : Int32) (m0 : MM) (H : Heap) (locs : List Loc) (ls : Array Slot), wp_X6_place_2 Q n l0 l1 l2 l3 m0 → hp G (xA base) m0 H → va_S (xA base) s.heap H locs → lv_has ls 4 [(0, .ref l0), (1, .int l1), (2, .int l2), (3, .int l3)] → W p l e ({ frames := 0, cells := 0, slots := 0, locals := 8 } : Room) s m args below meth c H locs 0 0 (MQ below (va_Qi Q (HB G base) (xA base)) args s 0 0 (xA base)) (F0 m 2 ls []) := by
  obtain ⟨hx, hb, hr, hml, hown, hts, hlocks, hK, hbase, hX⟩ := id C0
  intro n
  induction n with
  | zero =>
    intro l0 l1 l2 l3 m0 H locs ls h
    unfold wp_X6_place_2 at h
    exact h.elim
  | succ n ih =>
    intro l0 l1 l2 l3 m0 H locs ls h hh hS hl
    unfold wp_X6_place_2 at h
    have hL6 : ∀ w ∈ u_ws RX6 TX6 17, w.before _ s = true := fun w h9 => hts w (List.mem_cons_of_mem _ (List.mem_append_right _ (h9)))
    have q2 : (Cond.fieldLink RX6 46 "RollupStoreModel" "all" "I").before _ s = true := hts _ (List.mem_cons_of_mem _ (List.mem_append_left _ (List.mem_of_getElem? (i := 0) rfl)))
    have q3 : (Cond.fieldLink RX6 19 "RollupStoreModel" "who" "[I").before _ s = true := hts _ (List.mem_cons_of_mem _ (List.mem_append_left _ (List.mem_of_getElem? (i := 1) rfl)))
    have q4 : (Cond.fieldLink RX6 22 "RollupStoreModel" "time" "[I").before _ s = true := hts _ (List.mem_cons_of_mem _ (List.mem_append_left _ (List.mem_of_getElem? (i := 2) rfl)))
    refine lv_iload_n hx hb dX6_place_2 rfl (lv_at hl 3 rfl) ?_
    refine lv_aload_n hx hb dX6_place_3 rfl (lv_at hl 0 rfl) ?_
    obtain ⟨g2, h⟩ := h
    refine xr_getI (ci := 6) (C := RX6) (T := TX6) (N := 17) hx hb hL6 hown hK hh g2 (by decide) rfl 2 122 rfl rfl (by decide) (by decide) q2 (fun _ h9 => h9) dX6_place_4 ?_
    refine lv_icmp_ge (tgt := 46) hx hb dX6_place_7 (by decide) (fun c3 => ?_) (fun c3 => ?_)
    · replace h := h.1 c3
      refine lv_iload_n hx hb dX6_place_46 rfl (lv_at hl 3 rfl) ?_
      exact (xe_i hx hb hr hlocks hbase hh hK hX hS h (Nat.le_of_ble_eq_true rfl) (Nat.le_of_ble_eq_true rfl) dX6_place_47)
    · replace h := h.2 c3
      refine lv_aload_n hx hb dX6_place_10 rfl (lv_at hl 0 rfl) ?_
      obtain ⟨g4, h⟩ := h
      obtain ⟨b5, eb5, h⟩ := h
      refine xr_getR (ci := 6) (C := RX6) (T := TX6) (N := 17) hx hb hL6 hown hK hh g4 (by decide) rfl 6 126 rfl rfl (by decide) (by decide) q3 (fun _ h9 => h9) eb5 dX6_place_11 ?_
      refine lv_iload_n hx hb dX6_place_14 rfl (lv_at hl 3 rfl) ?_
      obtain ⟨g6, h⟩ := h
      obtain ⟨g7, h⟩ := h
      refine xr_iald hx hb hK hh g6 g7 dX6_place_15 ?_
      refine lv_iload_n hx hb dX6_place_16 rfl (lv_at hl 1 rfl) ?_
      refine lv_icmp_lt (tgt := 40) hx hb dX6_place_17 (by decide) (fun c8 => ?_) (fun c8 => ?_)
      · replace h := h.1 c8
        obtain ⟨x9, ex9⟩ : ∃ y : Int32, y = l3 + 1 := ⟨_, rfl⟩
        replace h := h x9 ex9
        refine lv_iinc (v := x9) (lv' := [(3, .int x9), (0, .ref l0), (1, .int l1), (2, .int l2)]) hx hb dX6_place_40 hl (k := 3) rfl (by rw [ex9]; rfl) (by decide) rfl (fun ls hl => ?_)
        refine lv_goto (tgt := 2) hx hb dX6_place_43 (by decide) ?_
        exact ih _ _ _ _ _ _ _ _ h hh hS (lv_sub hl [1, 2, 3, 0] rfl)
      · replace h := h.2 c8
        refine lv_aload_n hx hb dX6_place_20 rfl (lv_at hl 0 rfl) ?_
        obtain ⟨g10, h⟩ := h
        obtain ⟨b11, eb11, h⟩ := h
        refine xr_getR (ci := 6) (C := RX6) (T := TX6) (N := 17) hx hb hL6 hown hK hh g10 (by decide) rfl 6 126 rfl rfl (by decide) (by decide) q3 (fun _ h9 => h9) eb11 dX6_place_21 ?_
        refine lv_iload_n hx hb dX6_place_24 rfl (lv_at hl 3 rfl) ?_
        obtain ⟨g12, h⟩ := h
        obtain ⟨g13, h⟩ := h
        refine xr_iald hx hb hK hh g12 g13 dX6_place_25 ?_
        refine lv_iload_n hx hb dX6_place_26 rfl (lv_at hl 1 rfl) ?_
        refine lv_icmp_ne (tgt := 46) hx hb dX6_place_27 (by decide) (fun c14 => ?_) (fun c14 => ?_)
        · replace h := h.1 c14
          refine lv_iload_n hx hb dX6_place_46 rfl (lv_at hl 3 rfl) ?_
          exact (xe_i hx hb hr hlocks hbase hh hK hX hS h (Nat.le_of_ble_eq_true rfl) (Nat.le_of_ble_eq_true rfl) dX6_place_47)
        · replace h := h.2 c14
          refine lv_aload_n hx hb dX6_place_30 rfl (lv_at hl 0 rfl) ?_
          obtain ⟨g15, h⟩ := h
          obtain ⟨b16, eb16, h⟩ := h
          refine xr_getR (ci := 6) (C := RX6) (T := TX6) (N := 17) hx hb hL6 hown hK hh g15 (by decide) rfl 7 127 rfl rfl (by decide) (by decide) q4 (fun _ h9 => h9) eb16 dX6_place_31 ?_
          refine lv_iload_n hx hb dX6_place_34 rfl (lv_at hl 3 rfl) ?_
          obtain ⟨g17, h⟩ := h
          obtain ⟨g18, h⟩ := h
          refine xr_iald hx hb hK hh g17 g18 dX6_place_35 ?_
          refine lv_iload_n hx hb dX6_place_36 rfl (lv_at hl 2 rfl) ?_
          refine lv_icmp_ge (tgt := 46) hx hb dX6_place_37 (by decide) (fun c19 => ?_) (fun c19 => ?_)
          · replace h := h.1 c19
            refine lv_iload_n hx hb dX6_place_46 rfl (lv_at hl 3 rfl) ?_
            exact (xe_i hx hb hr hlocks hbase hh hK hX hS h (Nat.le_of_ble_eq_true rfl) (Nat.le_of_ble_eq_true rfl) dX6_place_47)
          · replace h := h.2 c19
            obtain ⟨x20, ex20⟩ : ∃ y : Int32, y = l3 + 1 := ⟨_, rfl⟩
            replace h := h x20 ex20
            refine lv_iinc (v := x20) (lv' := [(3, .int x20), (0, .ref l0), (1, .int l1), (2, .int l2)]) hx hb dX6_place_40 hl (k := 3) rfl (by rw [ex20]; rfl) (by decide) rfl (fun ls hl => ?_)
            refine lv_goto (tgt := 2) hx hb dX6_place_43 (by decide) ?_
            exact ih _ _ _ _ _ _ _ _ h hh hS (lv_sub hl [1, 2, 3, 0] rfl)

set_option maxHeartbeats 4000000 in
set_option maxRecDepth 100000 in
theorem mt_X6_place (l : Launch) (G : GG) (base : Nat) {a0 : Nat} {p1 : Int32} {p2 : Int32} {m0 : MM} {Q : Int32 → MM → Prop} (h : wp_X6_place a0 p1 p2 m0 Q) : Met l yX6_place wsX6_place ({ frames := 0, cells := 0, slots := 0, locals := 8 }) (va_Pc [.ref a0, .int p1, .int p2] (SP G base m0)) (va_Qi Q (HB G base) (xA base)) 0 0 (xA base) := by
  refine Met.ofW (cc := cX6_place) (maxL := 4) (ret := (some .int)) (by decide) rfl ?_
  intro p e s m args below meth c s₁ B hml hv
  obtain ⟨rfl, hbase, hh, hK, hX⟩ := hv
  have C0 : BC p s m _ meth c G base RX6 cX6_place 4 (some .int) wsX6_place := ⟨B.exec, B.bytes, B.returns, hml, findClass_of_methodNamed B.named, atoms_spec (ws := wsX6_place) B.pre, B.notSynchronized, hK, hbase, hX⟩
  obtain ⟨hx, hb, hr, -, hown, hts, hlocks, -, -, -⟩ := id C0
  have hS : va_S (xA base) s.heap s.heap [] := va_S.rf
  have hl := lv_entry ([.ref a0, .int p1, .int p2]) (n := 4) (Nat.le_of_ble_eq_true rfl)
  rw [lg_entry_eq]
  generalize (lg_sl ([.ref a0, .int p1, .int p2]) ++ List.replicate (4 - (lg_sl ([.ref a0, .int p1, .int p2])).length) Slot.unset).toArray = ls at hl ⊢
  have hl : lv_has ls 4 [(0, .ref a0), (1, .int p1), (2, .int p2)] := hl
  unfold wp_X6_place at h
  refine lv_iconst (v := 0) hx hb dX6_place_0 (by decide) ?_
  refine lv_topi (fun x1 ex1 => ?_)
  replace h := h x1 ex1
  refine lv_istore_n (lv' := [(3, .int x1), (0, .ref a0), (1, .int p1), (2, .int p2)]) hx hb dX6_place_1 rfl hl (by decide) rfl (fun ls hl => ?_)
  obtain ⟨n9, h⟩ := h
  exact bk_X6_place_2 C0  n9 _ _ _ _ _ _ _ _ h hh hS (lv_sub hl [1, 2, 3, 0] rfl)

set_option maxHeartbeats 4000000 in
set_option maxRecDepth 100000 in
theorem mt_X6_isAt (l : Launch) (G : GG) (base : Nat) {a0 : Nat} {p1 : Int32} {p2 : Int32} {p3 : Int32} {m0 : MM} {Q : Int32 → MM → Prop} (h : wp_X6_isAt a0 p1 p2 p3 m0 Q) : Met l yX6_isAt wsX6_isAt ({ frames := 0, cells := 0, slots := 0, locals := 8 }) (va_Pc [.ref a0, .int p1, .int p2, .int p3] (SP G base m0)) (va_Qi Q (HB G base) (xA base)) 0 0 (xA base) := by
  refine Met.ofW (cc := cX6_isAt) (maxL := 4) (ret := (some .boolean)) (by decide) rfl ?_
  intro p e s m args below meth c s₁ B hml hv
  obtain ⟨rfl, hbase, hh, hK, hX⟩ := hv
  have C0 : BC p s m _ meth c G base RX6 cX6_isAt 4 (some .boolean) wsX6_isAt := ⟨B.exec, B.bytes, B.returns, hml, findClass_of_methodNamed B.named, atoms_spec (ws := wsX6_isAt) B.pre, B.notSynchronized, hK, hbase, hX⟩
  obtain ⟨hx, hb, hr, -, hown, hts, hlocks, -, -, -⟩ := id C0
  have hS : va_S (xA base) s.heap s.heap [] := va_S.rf
  have hl := lv_entry ([.ref a0, .int p1, .int p2, .int p3]) (n := 4) (Nat.le_of_ble_eq_true rfl)
  rw [lg_entry_eq]
  generalize (lg_sl ([.ref a0, .int p1, .int p2, .int p3]) ++ List.replicate (4 - (lg_sl ([.ref a0, .int p1, .int p2, .int p3])).length) Slot.unset).toArray = ls at hl ⊢
  have hl : lv_has ls 4 [(0, .ref a0), (1, .int p1), (2, .int p2), (3, .int p3)] := hl
  unfold wp_X6_isAt at h
  have hL6 : ∀ w ∈ u_ws RX6 TX6 17, w.before _ s = true := fun w h9 => hts w (List.mem_cons_of_mem _ (List.mem_append_right _ (h9)))
  have q2 : (Cond.fieldLink RX6 46 "RollupStoreModel" "all" "I").before _ s = true := hts _ (List.mem_cons_of_mem _ (List.mem_append_left _ (List.mem_of_getElem? (i := 0) rfl)))
  have q3 : (Cond.fieldLink RX6 19 "RollupStoreModel" "who" "[I").before _ s = true := hts _ (List.mem_cons_of_mem _ (List.mem_append_left _ (List.mem_of_getElem? (i := 1) rfl)))
  have q4 : (Cond.fieldLink RX6 22 "RollupStoreModel" "time" "[I").before _ s = true := hts _ (List.mem_cons_of_mem _ (List.mem_append_left _ (List.mem_of_getElem? (i := 2) rfl)))
  refine lv_iload_n hx hb dX6_isAt_0 rfl (lv_at hl 1 rfl) ?_
  refine lv_aload_n hx hb dX6_isAt_1 rfl (lv_at hl 0 rfl) ?_
  obtain ⟨g1, h⟩ := h
  refine xr_getI (ci := 6) (C := RX6) (T := TX6) (N := 17) hx hb hL6 hown hK hh g1 (by decide) rfl 2 122 rfl rfl (by decide) (by decide) q2 (fun _ h9 => h9) dX6_isAt_2 ?_
  refine lv_icmp_ge (tgt := 32) hx hb dX6_isAt_5 (by decide) (fun c2 => ?_) (fun c2 => ?_)
  · replace h := h.1 c2
    refine lv_iconst (v := 0) hx hb dX6_isAt_32 (by decide) ?_
    exact (xe_z hx hb hr hlocks hbase hh hK hX hS (Or.inl rfl) h (Nat.le_of_ble_eq_true rfl) (Nat.le_of_ble_eq_true rfl) dX6_isAt_33)
  · replace h := h.2 c2
    refine lv_aload_n hx hb dX6_isAt_8 rfl (lv_at hl 0 rfl) ?_
    obtain ⟨g3, h⟩ := h
    obtain ⟨b4, eb4, h⟩ := h
    refine xr_getR (ci := 6) (C := RX6) (T := TX6) (N := 17) hx hb hL6 hown hK hh g3 (by decide) rfl 6 126 rfl rfl (by decide) (by decide) q3 (fun _ h9 => h9) eb4 dX6_isAt_9 ?_
    refine lv_iload_n hx hb dX6_isAt_12 rfl (lv_at hl 1 rfl) ?_
    obtain ⟨g5, h⟩ := h
    obtain ⟨g6, h⟩ := h
    refine xr_iald hx hb hK hh g5 g6 dX6_isAt_13 ?_
    refine lv_iload_n hx hb dX6_isAt_14 rfl (lv_at hl 2 rfl) ?_
    refine lv_icmp_ne (tgt := 32) hx hb dX6_isAt_15 (by decide) (fun c7 => ?_) (fun c7 => ?_)
    · replace h := h.1 c7
      refine lv_iconst (v := 0) hx hb dX6_isAt_32 (by decide) ?_
      exact (xe_z hx hb hr hlocks hbase hh hK hX hS (Or.inl rfl) h (Nat.le_of_ble_eq_true rfl) (Nat.le_of_ble_eq_true rfl) dX6_isAt_33)
    · replace h := h.2 c7
      refine lv_aload_n hx hb dX6_isAt_18 rfl (lv_at hl 0 rfl) ?_
      obtain ⟨g8, h⟩ := h
      obtain ⟨b9, eb9, h⟩ := h
      refine xr_getR (ci := 6) (C := RX6) (T := TX6) (N := 17) hx hb hL6 hown hK hh g8 (by decide) rfl 7 127 rfl rfl (by decide) (by decide) q4 (fun _ h9 => h9) eb9 dX6_isAt_19 ?_
      refine lv_iload_n hx hb dX6_isAt_22 rfl (lv_at hl 1 rfl) ?_
      obtain ⟨g10, h⟩ := h
      obtain ⟨g11, h⟩ := h
      refine xr_iald hx hb hK hh g10 g11 dX6_isAt_23 ?_
      refine lv_iload_n hx hb dX6_isAt_24 rfl (lv_at hl 3 rfl) ?_
      refine lv_icmp_ne (tgt := 32) hx hb dX6_isAt_25 (by decide) (fun c12 => ?_) (fun c12 => ?_)
      · replace h := h.1 c12
        refine lv_iconst (v := 0) hx hb dX6_isAt_32 (by decide) ?_
        exact (xe_z hx hb hr hlocks hbase hh hK hX hS (Or.inl rfl) h (Nat.le_of_ble_eq_true rfl) (Nat.le_of_ble_eq_true rfl) dX6_isAt_33)
      · replace h := h.2 c12
        refine lv_iconst (v := 1) hx hb dX6_isAt_28 (by decide) ?_
        refine lv_goto (tgt := 33) hx hb dX6_isAt_29 (by decide) ?_
        exact (xe_z hx hb hr hlocks hbase hh hK hX hS (Or.inr rfl) h (Nat.le_of_ble_eq_true rfl) (Nat.le_of_ble_eq_true rfl) dX6_isAt_33)

set_option maxHeartbeats 4000000 in
set_option maxRecDepth 100000 in
theorem mt_X6_isKept (l : Launch) (G : GG) (base : Nat) {a0 : Nat} {p1 : Int32} {p2 : Int32} {m0 : MM} {Q : Int32 → MM → Prop} (h : wp_X6_isKept a0 p1 p2 m0 Q) : Met l yX6_isKept wsX6_isKept ({ frames := 1, cells := 0, slots := 0, locals := 31 }) (va_Pc [.ref a0, .int p1, .int p2] (SP G base m0)) (va_Qi Q (HB G base) (xA base)) 0 0 (xA base) := by
  refine Met.ofW (cc := cX6_isKept) (maxL := 3) (ret := (some .boolean)) (by decide) rfl ?_
  intro p e s m args below meth c s₁ B hml hv
  obtain ⟨rfl, hbase, hh, hK, hX⟩ := hv
  have C0 : BC p s m _ meth c G base RX6 cX6_isKept 3 (some .boolean) wsX6_isKept := ⟨B.exec, B.bytes, B.returns, hml, findClass_of_methodNamed B.named, atoms_spec (ws := wsX6_isKept) B.pre, B.notSynchronized, hK, hbase, hX⟩
  obtain ⟨hx, hb, hr, -, hown, hts, hlocks, -, -, -⟩ := id C0
  have hS : va_S (xA base) s.heap s.heap [] := va_S.rf
  have hl := lv_entry ([.ref a0, .int p1, .int p2]) (n := 3) (Nat.le_of_ble_eq_true rfl)
  rw [lg_entry_eq]
  generalize (lg_sl ([.ref a0, .int p1, .int p2]) ++ List.replicate (3 - (lg_sl ([.ref a0, .int p1, .int p2])).length) Slot.unset).toArray = ls at hl ⊢
  have hl : lv_has ls 3 [(0, .ref a0), (1, .int p1), (2, .int p2)] := hl
  unfold wp_X6_isKept at h
  have hL6 : ∀ w ∈ u_ws RX6 TX6 17, w.before _ s = true := fun w h9 => hts w (List.mem_cons_of_mem _ (List.mem_append_right _ (h9)))
  have q2 : (Cond.fieldLink RX6 16 "RollupStoreModel" "horizon" "[I").before _ s = true := hts _ (List.mem_cons_of_mem _ (List.mem_append_left _ (List.mem_of_getElem? (i := 0) rfl)))
  refine lv_aload_n hx hb dX6_isKept_0 rfl (lv_at hl 0 rfl) ?_
  refine lv_aload_n hx hb dX6_isKept_1 rfl (lv_at hl 0 rfl) ?_
  refine lv_iload_n hx hb dX6_isKept_2 rfl (lv_at hl 1 rfl) ?_
  refine lv_iload_n hx hb dX6_isKept_3 rfl (lv_at hl 2 rfl) ?_
  obtain ⟨g1, h⟩ := h
  refine xc_i (va_runV (As := [.int p1, .int p2]) (rest := [.ref a0]) ⟨hx, hb, hml, hown, hts⟩ (mt_X6_place l G base h) (cwV 2 hts gX6_isKept_X6_place rfl rfl rfl (by decide +kernel) ⟨Nat.le_of_ble_eq_true rfl, Nat.le_of_ble_eq_true rfl⟩) (xp_V hbase hh hK hX hS (ci := 6) g1 (by decide) rfl) rfl rfl hl.1 rfl (lv_room (Nat.le_of_ble_eq_true rfl)) dX6_isKept_4 ⟨Nat.le_of_ble_eq_true rfl, Nat.le_of_ble_eq_true rfl⟩) hS (fun r2 m3 H locs h hh hS => ?_)
  refine lv_iload_n hx hb dX6_isKept_7 rfl (lv_at hl 1 rfl) ?_
  refine lv_iload_n hx hb dX6_isKept_8 rfl (lv_at hl 2 rfl) ?_
  obtain ⟨g4, h⟩ := h
  refine xc_i (va_runV (As := [.int r2, .int p1, .int p2]) (rest := []) ⟨hx, hb, hml, hown, hts⟩ (mt_X6_isAt l G base h) (cwV 3 hts gX6_isKept_X6_isAt rfl rfl rfl (by decide +kernel) ⟨Nat.le_of_ble_eq_true rfl, Nat.le_of_ble_eq_true rfl⟩) (xp_V hbase hh hK hX hS (ci := 6) g4 (by decide) rfl) rfl rfl hl.1 rfl (lv_room (Nat.le_of_ble_eq_true rfl)) dX6_isKept_9 ⟨Nat.le_of_ble_eq_true rfl, Nat.le_of_ble_eq_true rfl⟩) hS (fun r5 m6 H locs h hh hS => ?_)
  refine lv_if_eq (tgt := 29) hx hb dX6_isKept_12 (by decide) (fun c7 => ?_) (fun c7 => ?_)
  · replace h := h.1 c7
    refine lv_iconst (v := 0) hx hb dX6_isKept_29 (by decide) ?_
    exact (xe_z hx hb hr hlocks hbase hh hK hX hS (Or.inl rfl) h (Nat.le_of_ble_eq_true rfl) (Nat.le_of_ble_eq_true rfl) dX6_isKept_30)
  · replace h := h.2 c7
    refine lv_iload_n hx hb dX6_isKept_15 rfl (lv_at hl 2 rfl) ?_
    refine lv_aload_n hx hb dX6_isKept_16 rfl (lv_at hl 0 rfl) ?_
    obtain ⟨g8, h⟩ := h
    obtain ⟨b9, eb9, h⟩ := h
    refine xr_getR (ci := 6) (C := RX6) (T := TX6) (N := 17) hx hb hL6 hown hK hh g8 (by decide) rfl 5 125 rfl rfl (by decide) (by decide) q2 (fun _ h9 => h9) eb9 dX6_isKept_17 ?_
    refine lv_iconst (v := 0) hx hb dX6_isKept_20 (by decide) ?_
    obtain ⟨g10, h⟩ := h
    obtain ⟨g11, h⟩ := h
    refine xr_iald hx hb hK hh g10 g11 dX6_isKept_21 ?_
    refine lv_icmp_lt (tgt := 29) hx hb dX6_isKept_22 (by decide) (fun c12 => ?_) (fun c12 => ?_)
    · replace h := h.1 c12
      refine lv_iconst (v := 0) hx hb dX6_isKept_29 (by decide) ?_
      exact (xe_z hx hb hr hlocks hbase hh hK hX hS (Or.inl rfl) h (Nat.le_of_ble_eq_true rfl) (Nat.le_of_ble_eq_true rfl) dX6_isKept_30)
    · replace h := h.2 c12
      refine lv_iconst (v := 1) hx hb dX6_isKept_25 (by decide) ?_
      refine lv_goto (tgt := 30) hx hb dX6_isKept_26 (by decide) ?_
      exact (xe_z hx hb hr hlocks hbase hh hK hX hS (Or.inr rfl) h (Nat.le_of_ble_eq_true rfl) (Nat.le_of_ble_eq_true rfl) dX6_isKept_30)

set_option maxHeartbeats 4000000 in
set_option maxRecDepth 100000 in
theorem bk_X6_keptPoints_4 {p : Program} {l : Launch} {e : Env} {s : State} {m : MethodId} {args : Array Value} {below : List Frame} {meth : Method} {c : Code} {G : GG} {base : Nat} (C0 : BC p s m args meth c G base RX6 cX6_keptPoints 4 (some .int) wsX6_keptPoints) {Q : Int32 → MM → Prop} : ∀ (n : Nat) (l0 : Nat) (l1 : Int32) (l2 : Int32) (l3 : Int32) (m0 : MM) (H : Heap) (locs : List Loc) (ls : Array Slot), wp_X6_keptPoints_4 Q n l0 l1 l2 l3 m0 → hp G (xA base) m0 H → va_S (xA base) s.heap H locs → lv_has ls 4 [(0, .ref l0), (1, .int l1), (2, .int l2), (3, .int l3)] → W p l e ({ frames := 0, cells := 0, slots := 0, locals := 8 } : Room) s m args below meth c H locs 0 0 (MQ below (va_Qi Q (HB G base) (xA base)) args s 0 0 (xA base)) (F0 m 4 ls []) := by
  obtain ⟨hx, hb, hr, hml, hown, hts, hlocks, hK, hbase, hX⟩ := id C0
  intro n
  induction n with
  | zero =>
    intro l0 l1 l2 l3 m0 H locs ls h
    unfold wp_X6_keptPoints_4 at h
    exact h.elim
  | succ n ih =>
    intro l0 l1 l2 l3 m0 H locs ls h hh hS hl
    unfold wp_X6_keptPoints_4 at h
    have hL6 : ∀ w ∈ u_ws RX6 TX6 17, w.before _ s = true := fun w h9 => hts w (List.mem_cons_of_mem _ (List.mem_append_right _ (h9)))
    have q2 : (Cond.fieldLink RX6 46 "RollupStoreModel" "all" "I").before _ s = true := hts _ (List.mem_cons_of_mem _ (List.mem_append_left _ (List.mem_of_getElem? (i := 0) rfl)))
    have q3 : (Cond.fieldLink RX6 19 "RollupStoreModel" "who" "[I").before _ s = true := hts _ (List.mem_cons_of_mem _ (List.mem_append_left _ (List.mem_of_getElem? (i := 1) rfl)))
    have q4 : (Cond.fieldLink RX6 22 "RollupStoreModel" "time" "[I").before _ s = true := hts _ (List.mem_cons_of_mem _ (List.mem_append_left _ (List.mem_of_getElem? (i := 2) rfl)))
    have q5 : (Cond.fieldLink RX6 16 "RollupStoreModel" "horizon" "[I").before _ s = true := hts _ (List.mem_cons_of_mem _ (List.mem_append_left _ (List.mem_of_getElem? (i := 3) rfl)))
    refine lv_iload_n hx hb dX6_keptPoints_4 rfl (lv_at hl 3 rfl) ?_
    refine lv_aload_n hx hb dX6_keptPoints_5 rfl (lv_at hl 0 rfl) ?_
    obtain ⟨g3, h⟩ := h
    refine xr_getI (ci := 6) (C := RX6) (T := TX6) (N := 17) hx hb hL6 hown hK hh g3 (by decide) rfl 2 122 rfl rfl (by decide) (by decide) q2 (fun _ h9 => h9) dX6_keptPoints_6 ?_
    refine lv_icmp_ge (tgt := 51) hx hb dX6_keptPoints_9 (by decide) (fun c4 => ?_) (fun c4 => ?_)
    · replace h := h.1 c4
      refine lv_iload_n hx hb dX6_keptPoints_51 rfl (lv_at hl 2 rfl) ?_
      exact (xe_i hx hb hr hlocks hbase hh hK hX hS h (Nat.le_of_ble_eq_true rfl) (Nat.le_of_ble_eq_true rfl) dX6_keptPoints_52)
    · replace h := h.2 c4
      refine lv_iload_n hx hb dX6_keptPoints_12 rfl (lv_at hl 2 rfl) ?_
      refine lv_aload_n hx hb dX6_keptPoints_13 rfl (lv_at hl 0 rfl) ?_
      obtain ⟨g5, h⟩ := h
      obtain ⟨b6, eb6, h⟩ := h
      refine xr_getR (ci := 6) (C := RX6) (T := TX6) (N := 17) hx hb hL6 hown hK hh g5 (by decide) rfl 6 126 rfl rfl (by decide) (by decide) q3 (fun _ h9 => h9) eb6 dX6_keptPoints_14 ?_
      refine lv_iload_n hx hb dX6_keptPoints_17 rfl (lv_at hl 3 rfl) ?_
      obtain ⟨g7, h⟩ := h
      obtain ⟨g8, h⟩ := h
      refine xr_iald hx hb hK hh g7 g8 dX6_keptPoints_18 ?_
      refine lv_iload_n hx hb dX6_keptPoints_19 rfl (lv_at hl 1 rfl) ?_
      refine lv_icmp_ne (tgt := 42) hx hb dX6_keptPoints_20 (by decide) (fun c9 => ?_) (fun c9 => ?_)
      · replace h := h.1 c9
        refine lv_iconst (v := 0) hx hb dX6_keptPoints_42 (by decide) ?_
        refine lv_iadd hx hb dX6_keptPoints_43 ?_
        refine lv_topi (fun x10 ex10 => ?_)
        replace h := h x10 ex10
        refine lv_istore_n (lv' := [(2, .int x10), (0, .ref l0), (1, .int l1), (3, .int l3)]) hx hb dX6_keptPoints_44 rfl hl (by decide) rfl (fun ls hl => ?_)
        obtain ⟨x11, ex11⟩ : ∃ y : Int32, y = l3 + 1 := ⟨_, rfl⟩
        replace h := h x11 ex11
        refine lv_iinc (v := x11) (lv' := [(3, .int x11), (2, .int x10), (0, .ref l0), (1, .int l1)]) hx hb dX6_keptPoints_45 hl (k := 3) rfl (by rw [ex11]; rfl) (by decide) rfl (fun ls hl => ?_)
        refine lv_goto (tgt := 4) hx hb dX6_keptPoints_48 (by decide) ?_
        exact ih _ _ _ _ _ _ _ _ h hh hS (lv_sub hl [2, 3, 1, 0] rfl)
      · replace h := h.2 c9
        refine lv_aload_n hx hb dX6_keptPoints_23 rfl (lv_at hl 0 rfl) ?_
        obtain ⟨g12, h⟩ := h
        obtain ⟨b13, eb13, h⟩ := h
        refine xr_getR (ci := 6) (C := RX6) (T := TX6) (N := 17) hx hb hL6 hown hK hh g12 (by decide) rfl 7 127 rfl rfl (by decide) (by decide) q4 (fun _ h9 => h9) eb13 dX6_keptPoints_24 ?_
        refine lv_iload_n hx hb dX6_keptPoints_27 rfl (lv_at hl 3 rfl) ?_
        obtain ⟨g14, h⟩ := h
        obtain ⟨g15, h⟩ := h
        refine xr_iald hx hb hK hh g14 g15 dX6_keptPoints_28 ?_
        refine lv_aload_n hx hb dX6_keptPoints_29 rfl (lv_at hl 0 rfl) ?_
        obtain ⟨g16, h⟩ := h
        obtain ⟨b17, eb17, h⟩ := h
        refine xr_getR (ci := 6) (C := RX6) (T := TX6) (N := 17) hx hb hL6 hown hK hh g16 (by decide) rfl 5 125 rfl rfl (by decide) (by decide) q5 (fun _ h9 => h9) eb17 dX6_keptPoints_30 ?_
        refine lv_iconst (v := 0) hx hb dX6_keptPoints_33 (by decide) ?_
        obtain ⟨g18, h⟩ := h
        obtain ⟨g19, h⟩ := h
        refine xr_iald hx hb hK hh g18 g19 dX6_keptPoints_34 ?_
        refine lv_icmp_lt (tgt := 42) hx hb dX6_keptPoints_35 (by decide) (fun c20 => ?_) (fun c20 => ?_)
        · replace h := h.1 c20
          refine lv_iconst (v := 0) hx hb dX6_keptPoints_42 (by decide) ?_
          refine lv_iadd hx hb dX6_keptPoints_43 ?_
          refine lv_topi (fun x21 ex21 => ?_)
          replace h := h x21 ex21
          refine lv_istore_n (lv' := [(2, .int x21), (0, .ref l0), (1, .int l1), (3, .int l3)]) hx hb dX6_keptPoints_44 rfl hl (by decide) rfl (fun ls hl => ?_)
          obtain ⟨x22, ex22⟩ : ∃ y : Int32, y = l3 + 1 := ⟨_, rfl⟩
          replace h := h x22 ex22
          refine lv_iinc (v := x22) (lv' := [(3, .int x22), (2, .int x21), (0, .ref l0), (1, .int l1)]) hx hb dX6_keptPoints_45 hl (k := 3) rfl (by rw [ex22]; rfl) (by decide) rfl (fun ls hl => ?_)
          refine lv_goto (tgt := 4) hx hb dX6_keptPoints_48 (by decide) ?_
          exact ih _ _ _ _ _ _ _ _ h hh hS (lv_sub hl [2, 3, 1, 0] rfl)
        · replace h := h.2 c20
          refine lv_iconst (v := 1) hx hb dX6_keptPoints_38 (by decide) ?_
          refine lv_goto (tgt := 43) hx hb dX6_keptPoints_39 (by decide) ?_
          refine lv_iadd hx hb dX6_keptPoints_43 ?_
          refine lv_topi (fun x23 ex23 => ?_)
          replace h := h x23 ex23
          refine lv_istore_n (lv' := [(2, .int x23), (0, .ref l0), (1, .int l1), (3, .int l3)]) hx hb dX6_keptPoints_44 rfl hl (by decide) rfl (fun ls hl => ?_)
          obtain ⟨x24, ex24⟩ : ∃ y : Int32, y = l3 + 1 := ⟨_, rfl⟩
          replace h := h x24 ex24
          refine lv_iinc (v := x24) (lv' := [(3, .int x24), (2, .int x23), (0, .ref l0), (1, .int l1)]) hx hb dX6_keptPoints_45 hl (k := 3) rfl (by rw [ex24]; rfl) (by decide) rfl (fun ls hl => ?_)
          refine lv_goto (tgt := 4) hx hb dX6_keptPoints_48 (by decide) ?_
          exact ih _ _ _ _ _ _ _ _ h hh hS (lv_sub hl [2, 3, 1, 0] rfl)

set_option maxHeartbeats 4000000 in
set_option maxRecDepth 100000 in
theorem mt_X6_keptPoints (l : Launch) (G : GG) (base : Nat) {a0 : Nat} {p1 : Int32} {m0 : MM} {Q : Int32 → MM → Prop} (h : wp_X6_keptPoints a0 p1 m0 Q) : Met l yX6_keptPoints wsX6_keptPoints ({ frames := 0, cells := 0, slots := 0, locals := 8 }) (va_Pc [.ref a0, .int p1] (SP G base m0)) (va_Qi Q (HB G base) (xA base)) 0 0 (xA base) := by
  refine Met.ofW (cc := cX6_keptPoints) (maxL := 4) (ret := (some .int)) (by decide) rfl ?_
  intro p e s m args below meth c s₁ B hml hv
  obtain ⟨rfl, hbase, hh, hK, hX⟩ := hv
  have C0 : BC p s m _ meth c G base RX6 cX6_keptPoints 4 (some .int) wsX6_keptPoints := ⟨B.exec, B.bytes, B.returns, hml, findClass_of_methodNamed B.named, atoms_spec (ws := wsX6_keptPoints) B.pre, B.notSynchronized, hK, hbase, hX⟩
  obtain ⟨hx, hb, hr, -, hown, hts, hlocks, -, -, -⟩ := id C0
  have hS : va_S (xA base) s.heap s.heap [] := va_S.rf
  have hl := lv_entry ([.ref a0, .int p1]) (n := 4) (Nat.le_of_ble_eq_true rfl)
  rw [lg_entry_eq]
  generalize (lg_sl ([.ref a0, .int p1]) ++ List.replicate (4 - (lg_sl ([.ref a0, .int p1])).length) Slot.unset).toArray = ls at hl ⊢
  have hl : lv_has ls 4 [(0, .ref a0), (1, .int p1)] := hl
  unfold wp_X6_keptPoints at h
  refine lv_iconst (v := 0) hx hb dX6_keptPoints_0 (by decide) ?_
  refine lv_topi (fun x1 ex1 => ?_)
  replace h := h x1 ex1
  refine lv_istore_n (lv' := [(2, .int x1), (0, .ref a0), (1, .int p1)]) hx hb dX6_keptPoints_1 rfl hl (by decide) rfl (fun ls hl => ?_)
  refine lv_iconst (v := 0) hx hb dX6_keptPoints_2 (by decide) ?_
  refine lv_topi (fun x2 ex2 => ?_)
  replace h := h x2 ex2
  refine lv_istore_n (lv' := [(3, .int x2), (2, .int x1), (0, .ref a0), (1, .int p1)]) hx hb dX6_keptPoints_3 rfl hl (by decide) rfl (fun ls hl => ?_)
  obtain ⟨n9, h⟩ := h
  exact bk_X6_keptPoints_4 C0  n9 _ _ _ _ _ _ _ _ h hh hS (lv_sub hl [2, 3, 1, 0] rfl)

set_option maxHeartbeats 4000000 in
set_option maxRecDepth 100000 in
theorem mt_X6_fault (l : Launch) (G : GG) (base : Nat) {a0 : Nat} {p1 : Int32} {p2 : Int32} {p3 : Int32} {m0 : MM} {Q : Int32 → MM → Prop} (h : wp_X6_fault a0 p1 p2 p3 m0 Q) : Met l yX6_fault wsX6_fault ({ frames := 2, cells := 0, slots := 0, locals := 53 }) (va_Pc [.ref a0, .int p1, .int p2, .int p3] (SP G base m0)) (va_Qi Q (HB G base) (xA base)) 0 0 (xA base) := by
  refine Met.ofW (cc := cX6_fault) (maxL := 4) (ret := (some .int)) (by decide) rfl ?_
  intro p e s m args below meth c s₁ B hml hv
  obtain ⟨rfl, hbase, hh, hK, hX⟩ := hv
  have C0 : BC p s m _ meth c G base RX6 cX6_fault 4 (some .int) wsX6_fault := ⟨B.exec, B.bytes, B.returns, hml, findClass_of_methodNamed B.named, atoms_spec (ws := wsX6_fault) B.pre, B.notSynchronized, hK, hbase, hX⟩
  obtain ⟨hx, hb, hr, -, hown, hts, hlocks, -, -, -⟩ := id C0
  have hS : va_S (xA base) s.heap s.heap [] := va_S.rf
  have hl := lv_entry ([.ref a0, .int p1, .int p2, .int p3]) (n := 4) (Nat.le_of_ble_eq_true rfl)
  rw [lg_entry_eq]
  generalize (lg_sl ([.ref a0, .int p1, .int p2, .int p3]) ++ List.replicate (4 - (lg_sl ([.ref a0, .int p1, .int p2, .int p3])).length) Slot.unset).toArray = ls at hl ⊢
  have hl : lv_has ls 4 [(0, .ref a0), (1, .int p1), (2, .int p2), (3, .int p3)] := hl
  unfold wp_X6_fault at h
  have hL6 : ∀ w ∈ u_ws RX6 TX6 17, w.before _ s = true := fun w h9 => hts w (List.mem_cons_of_mem _ (List.mem_append_right _ (h9)))
  have q2 : (Cond.fieldLink RX6 62 "RollupStoreModel" "clock" "I").before _ s = true := hts _ (List.mem_cons_of_mem _ (List.mem_append_left _ (List.mem_append_left _ (List.mem_of_getElem? (i := 0) rfl))))
  refine lv_iload_n hx hb dX6_fault_0 rfl (lv_at hl 2 rfl) ?_
  refine lv_if_lt (tgt := 21) hx hb dX6_fault_1 (by decide) (fun c1 => ?_) (fun c1 => ?_)
  · replace h := h.1 c1
    refine lv_iconst (v := 2) hx hb dX6_fault_21 (by decide) ?_
    exact (xe_i hx hb hr hlocks hbase hh hK hX hS h (Nat.le_of_ble_eq_true rfl) (Nat.le_of_ble_eq_true rfl) dX6_fault_22)
  · replace h := h.2 c1
    refine lv_iload_n hx hb dX6_fault_4 rfl (lv_at hl 2 rfl) ?_
    refine lv_aload_n hx hb dX6_fault_5 rfl (lv_at hl 0 rfl) ?_
    obtain ⟨g2, h⟩ := h
    refine xr_getI (ci := 6) (C := RX6) (T := TX6) (N := 17) hx hb hL6 hown hK hh g2 (by decide) rfl 0 120 rfl rfl (by decide) (by decide) q2 (fun _ h9 => h9) dX6_fault_6 ?_
    refine lv_icmp_gt (tgt := 21) hx hb dX6_fault_9 (by decide) (fun c3 => ?_) (fun c3 => ?_)
    · replace h := h.1 c3
      refine lv_iconst (v := 2) hx hb dX6_fault_21 (by decide) ?_
      exact (xe_i hx hb hr hlocks hbase hh hK hX hS h (Nat.le_of_ble_eq_true rfl) (Nat.le_of_ble_eq_true rfl) dX6_fault_22)
    · replace h := h.2 c3
      refine lv_aload_n hx hb dX6_fault_12 rfl (lv_at hl 0 rfl) ?_
      refine lv_iload_n hx hb dX6_fault_13 rfl (lv_at hl 1 rfl) ?_
      refine lv_iload_n hx hb dX6_fault_14 rfl (lv_at hl 3 rfl) ?_
      obtain ⟨g4, h⟩ := h
      refine xc_i (va_runV (As := [.int p1, .int p3]) (rest := []) ⟨hx, hb, hml, hown, hts⟩ (mt_X6_isValue l G base h) (cwV 2 hts gX6_fault_X6_isValue rfl rfl rfl (by decide +kernel) ⟨Nat.le_of_ble_eq_true rfl, Nat.le_of_ble_eq_true rfl⟩) (xp_V hbase hh hK hX hS (ci := 6) g4 (by decide) rfl) rfl rfl hl.1 rfl (lv_room (Nat.le_of_ble_eq_true rfl)) dX6_fault_15 ⟨Nat.le_of_ble_eq_true rfl, Nat.le_of_ble_eq_true rfl⟩) hS (fun r5 m6 H locs h hh hS => ?_)
      refine lv_if_ne (tgt := 23) hx hb dX6_fault_18 (by decide) (fun c7 => ?_) (fun c7 => ?_)
      · replace h := h.1 c7
        refine lv_iload_n hx hb dX6_fault_23 rfl (lv_at hl 2 rfl) ?_
        refine lv_aload_n hx hb dX6_fault_24 rfl (lv_at hl 0 rfl) ?_
        obtain ⟨g8, h⟩ := h
        refine xr_getI (ci := 6) (C := RX6) (T := TX6) (N := 17) hx hb hL6 hown hK hh g8 (by decide) rfl 0 120 rfl rfl (by decide) (by decide) q2 (fun _ h9 => h9) dX6_fault_25 ?_
        refine lv_sipush (v := 3600) hx hb dX6_fault_28 (by decide) ?_
        refine lv_isub hx hb dX6_fault_31 ?_
        refine lv_icmp_lt (tgt := 54) hx hb dX6_fault_32 (by decide) (fun c9 => ?_) (fun c9 => ?_)
        · replace h := h.1 c9
          refine lv_iconst (v := 3) hx hb dX6_fault_54 (by decide) ?_
          refine lv_goto (tgt := 59) hx hb dX6_fault_55 (by decide) ?_
          exact (xe_i hx hb hr hlocks hbase hh hK hX hS h (Nat.le_of_ble_eq_true rfl) (Nat.le_of_ble_eq_true rfl) dX6_fault_59)
        · replace h := h.2 c9
          refine lv_aload_n hx hb dX6_fault_35 rfl (lv_at hl 0 rfl) ?_
          refine lv_iload_n hx hb dX6_fault_36 rfl (lv_at hl 1 rfl) ?_
          refine lv_iload_n hx hb dX6_fault_37 rfl (lv_at hl 2 rfl) ?_
          obtain ⟨g10, h⟩ := h
          refine xc_i (va_runV (As := [.int p1, .int p2]) (rest := []) ⟨hx, hb, hml, hown, hts⟩ (mt_X6_isKept l G base h) (cwV 2 hts gX6_fault_X6_isKept rfl rfl rfl (by decide +kernel) ⟨Nat.le_of_ble_eq_true rfl, Nat.le_of_ble_eq_true rfl⟩) (xp_V hbase hh hK hX hS (ci := 6) g10 (by decide) rfl) rfl rfl hl.1 rfl (lv_room (Nat.le_of_ble_eq_true rfl)) dX6_fault_38 ⟨Nat.le_of_ble_eq_true rfl, Nat.le_of_ble_eq_true rfl⟩) hS (fun r11 m12 H locs h hh hS => ?_)
          refine lv_if_ne (tgt := 58) hx hb dX6_fault_41 (by decide) (fun c13 => ?_) (fun c13 => ?_)
          · replace h := h.1 c13
            refine lv_iconst (v := 0) hx hb dX6_fault_58 (by decide) ?_
            exact (xe_i hx hb hr hlocks hbase hh hK hX hS h (Nat.le_of_ble_eq_true rfl) (Nat.le_of_ble_eq_true rfl) dX6_fault_59)
          · replace h := h.2 c13
            refine lv_aload_n hx hb dX6_fault_44 rfl (lv_at hl 0 rfl) ?_
            refine lv_iload_n hx hb dX6_fault_45 rfl (lv_at hl 1 rfl) ?_
            obtain ⟨g14, h⟩ := h
            refine xc_i (va_runV (As := [.int p1]) (rest := []) ⟨hx, hb, hml, hown, hts⟩ (mt_X6_keptPoints l G base h) (cwV 1 hts gX6_fault_X6_keptPoints rfl rfl rfl (by decide +kernel) ⟨Nat.le_of_ble_eq_true rfl, Nat.le_of_ble_eq_true rfl⟩) (xp_V hbase hh hK hX hS (ci := 6) g14 (by decide) rfl) rfl rfl hl.1 rfl (lv_room (Nat.le_of_ble_eq_true rfl)) dX6_fault_46 ⟨Nat.le_of_ble_eq_true rfl, Nat.le_of_ble_eq_true rfl⟩) hS (fun r15 m16 H locs h hh hS => ?_)
            refine lv_bipush (v := 100) hx hb dX6_fault_49 (by decide) ?_
            refine lv_icmp_ne (tgt := 58) hx hb dX6_fault_51 (by decide) (fun c17 => ?_) (fun c17 => ?_)
            · replace h := h.1 c17
              refine lv_iconst (v := 0) hx hb dX6_fault_58 (by decide) ?_
              exact (xe_i hx hb hr hlocks hbase hh hK hX hS h (Nat.le_of_ble_eq_true rfl) (Nat.le_of_ble_eq_true rfl) dX6_fault_59)
            · replace h := h.2 c17
              refine lv_iconst (v := 3) hx hb dX6_fault_54 (by decide) ?_
              refine lv_goto (tgt := 59) hx hb dX6_fault_55 (by decide) ?_
              exact (xe_i hx hb hr hlocks hbase hh hK hX hS h (Nat.le_of_ble_eq_true rfl) (Nat.le_of_ble_eq_true rfl) dX6_fault_59)
      · replace h := h.2 c7
        refine lv_iconst (v := 2) hx hb dX6_fault_21 (by decide) ?_
        exact (xe_i hx hb hr hlocks hbase hh hK hX hS h (Nat.le_of_ble_eq_true rfl) (Nat.le_of_ble_eq_true rfl) dX6_fault_22)

set_option maxHeartbeats 4000000 in
set_option maxRecDepth 100000 in
theorem bk_X6_writes_29 {p : Program} {l : Launch} {e : Env} {s : State} {m : MethodId} {args : Array Value} {below : List Frame} {meth : Method} {c : Code} {G : GG} {base : Nat} (C0 : BC p s m args meth c G base RX6 cX6_writes 7 (some .boolean) wsX6_writes) {Q : Int32 → MM → Prop} : ∀ (n : Nat) (l0 : Nat) (l1 : Int32) (l2 : Int32) (l3 : Int32) (l4 : Int32) (l5 : Int32) (l6 : Int32) (m0 : MM) (H : Heap) (locs : List Loc) (ls : Array Slot), wp_X6_writes_29 Q n l0 l1 l2 l3 l4 l5 l6 m0 → hp G (xA base) m0 H → va_S (xA base) s.heap H locs → lv_has ls 7 [(0, .ref l0), (1, .int l1), (2, .int l2), (3, .int l3), (4, .int l4), (5, .int l5), (6, .int l6)] → W p l e ({ frames := 1, cells := 0, slots := 0, locals := 31 } : Room) s m args below meth c H locs 0 0 (MQ below (va_Qi Q (HB G base) (xA base)) args s 0 0 (xA base)) (F0 m 29 ls []) := by
  obtain ⟨hx, hb, hr, hml, hown, hts, hlocks, hK, hbase, hX⟩ := id C0
  intro n
  induction n with
  | zero =>
    intro l0 l1 l2 l3 l4 l5 l6 m0 H locs ls h
    unfold wp_X6_writes_29 at h
    exact h.elim
  | succ n ih =>
    intro l0 l1 l2 l3 l4 l5 l6 m0 H locs ls h hh hS hl
    unfold wp_X6_writes_29 at h
    have hL6 : ∀ w ∈ u_ws RX6 TX6 17, w.before _ s = true := fun w h9 => hts w (List.mem_cons_of_mem _ (List.mem_append_right _ (h9)))
    have q2 : (Cond.fieldLink RX6 46 "RollupStoreModel" "all" "I").before _ s = true := hts _ (List.mem_cons_of_mem _ (List.mem_append_left _ (List.mem_of_getElem? (i := 0) rfl)))
    have q3 : (Cond.fieldLink RX6 19 "RollupStoreModel" "who" "[I").before _ s = true := hts _ (List.mem_cons_of_mem _ (List.mem_append_left _ (List.mem_of_getElem? (i := 1) rfl)))
    have q4 : (Cond.fieldLink RX6 22 "RollupStoreModel" "time" "[I").before _ s = true := hts _ (List.mem_cons_of_mem _ (List.mem_append_left _ (List.mem_of_getElem? (i := 2) rfl)))
    have q5 : (Cond.fieldLink RX6 25 "RollupStoreModel" "value" "[I").before _ s = true := hts _ (List.mem_cons_of_mem _ (List.mem_append_left _ (List.mem_of_getElem? (i := 3) rfl)))
    refine lv_iload hx hb dX6_writes_29 (lv_at hl 6 rfl) ?_
    refine lv_iload hx hb dX6_writes_31 (lv_at hl 4 rfl) ?_
    refine lv_icmp_le (tgt := 90) hx hb dX6_writes_33 (by decide) (fun c25 => ?_) (fun c25 => ?_)
    · replace h := h.1 c25
      refine lv_aload_n hx hb dX6_writes_90 rfl (lv_at hl 0 rfl) ?_
      refine lv_dup hx hb dX6_writes_91 rfl ?_
      obtain ⟨g26, h⟩ := h
      refine xr_getI (ci := 6) (C := RX6) (T := TX6) (N := 17) hx hb hL6 hown hK hh g26 (by decide) rfl 2 122 rfl rfl (by decide) (by decide) q2 (fun _ h9 => h9) dX6_writes_92 ?_
      refine lv_iconst (v := 1) hx hb dX6_writes_95 (by decide) ?_
      refine lv_iadd hx hb dX6_writes_96 ?_
      obtain ⟨g27, h⟩ := h
      refine xr_putI (ci := 6) (C := RX6) (T := TX6) (N := 17) hx hb hL6 hown hK hh g27 (by decide) rfl 2 122 rfl rfl (by decide) (by decide) q2 (fun _ h9 => h9) tyX6 tyX6_ok nmX6 rfl rfl rfl hS dX6_writes_97 (fun H locs hh hS => ?_)
      obtain ⟨m28, em28⟩ : ∃ z : MM, z = sI m0 122 l0 ((mI m0 122 l0) + (1 : Int32)) := ⟨_, rfl⟩
      rw [← em28] at hh
      replace h := h m28 em28
      refine lv_aload_n hx hb dX6_writes_100 rfl (lv_at hl 0 rfl) ?_
      obtain ⟨g29, h⟩ := h
      obtain ⟨b30, eb30, h⟩ := h
      refine xr_getR (ci := 6) (C := RX6) (T := TX6) (N := 17) hx hb hL6 hown hK hh g29 (by decide) rfl 6 126 rfl rfl (by decide) (by decide) q3 (fun _ h9 => h9) eb30 dX6_writes_101 ?_
      refine lv_iload hx hb dX6_writes_104 (lv_at hl 4 rfl) ?_
      refine lv_iload_n hx hb dX6_writes_106 rfl (lv_at hl 1 rfl) ?_
      obtain ⟨g31, h⟩ := h
      obtain ⟨g32, h⟩ := h
      refine xr_iast hx hb hK hh g31 hS g32 dX6_writes_107 (fun H locs hh hS => ?_)
      obtain ⟨m33, em33⟩ : ∃ z : MM, z = sAI m28 b30 (va_up (mAI m28 b30) l4.toNatClampNeg l1) := ⟨_, rfl⟩
      rw [← em33] at hh
      replace h := h m33 em33
      refine lv_aload_n hx hb dX6_writes_108 rfl (lv_at hl 0 rfl) ?_
      obtain ⟨g34, h⟩ := h
      obtain ⟨b35, eb35, h⟩ := h
      refine xr_getR (ci := 6) (C := RX6) (T := TX6) (N := 17) hx hb hL6 hown hK hh g34 (by decide) rfl 7 127 rfl rfl (by decide) (by decide) q4 (fun _ h9 => h9) eb35 dX6_writes_109 ?_
      refine lv_iload hx hb dX6_writes_112 (lv_at hl 4 rfl) ?_
      refine lv_iload_n hx hb dX6_writes_114 rfl (lv_at hl 2 rfl) ?_
      obtain ⟨g36, h⟩ := h
      obtain ⟨g37, h⟩ := h
      refine xr_iast hx hb hK hh g36 hS g37 dX6_writes_115 (fun H locs hh hS => ?_)
      obtain ⟨m38, em38⟩ : ∃ z : MM, z = sAI m33 b35 (va_up (mAI m33 b35) l4.toNatClampNeg l2) := ⟨_, rfl⟩
      rw [← em38] at hh
      replace h := h m38 em38
      refine lv_aload_n hx hb dX6_writes_116 rfl (lv_at hl 0 rfl) ?_
      obtain ⟨g39, h⟩ := h
      obtain ⟨b40, eb40, h⟩ := h
      refine xr_getR (ci := 6) (C := RX6) (T := TX6) (N := 17) hx hb hL6 hown hK hh g39 (by decide) rfl 8 128 rfl rfl (by decide) (by decide) q5 (fun _ h9 => h9) eb40 dX6_writes_117 ?_
      refine lv_iload hx hb dX6_writes_120 (lv_at hl 4 rfl) ?_
      refine lv_iload_n hx hb dX6_writes_122 rfl (lv_at hl 3 rfl) ?_
      obtain ⟨g41, h⟩ := h
      obtain ⟨g42, h⟩ := h
      refine xr_iast hx hb hK hh g41 hS g42 dX6_writes_123 (fun H locs hh hS => ?_)
      obtain ⟨m43, em43⟩ : ∃ z : MM, z = sAI m38 b40 (va_up (mAI m38 b40) l4.toNatClampNeg l3) := ⟨_, rfl⟩
      rw [← em43] at hh
      replace h := h m43 em43
      refine lv_iload hx hb dX6_writes_124 (lv_at hl 5 rfl) ?_
      exact (xe_z hx hb hr hlocks hbase hh hK hX hS h.1 h.2 (Nat.le_of_ble_eq_true rfl) (Nat.le_of_ble_eq_true rfl) dX6_writes_126)
    · replace h := h.2 c25
      refine lv_aload_n hx hb dX6_writes_36 rfl (lv_at hl 0 rfl) ?_
      obtain ⟨g44, h⟩ := h
      obtain ⟨b45, eb45, h⟩ := h
      refine xr_getR (ci := 6) (C := RX6) (T := TX6) (N := 17) hx hb hL6 hown hK hh g44 (by decide) rfl 6 126 rfl rfl (by decide) (by decide) q3 (fun _ h9 => h9) eb45 dX6_writes_37 ?_
      refine lv_iload hx hb dX6_writes_40 (lv_at hl 6 rfl) ?_
      refine lv_aload_n hx hb dX6_writes_42 rfl (lv_at hl 0 rfl) ?_
      obtain ⟨g46, h⟩ := h
      obtain ⟨b47, eb47, h⟩ := h
      refine xr_getR (ci := 6) (C := RX6) (T := TX6) (N := 17) hx hb hL6 hown hK hh g46 (by decide) rfl 6 126 rfl rfl (by decide) (by decide) q3 (fun _ h9 => h9) eb47 dX6_writes_43 ?_
      refine lv_iload hx hb dX6_writes_46 (lv_at hl 6 rfl) ?_
      refine lv_iconst (v := 1) hx hb dX6_writes_48 (by decide) ?_
      refine lv_isub hx hb dX6_writes_49 ?_
      obtain ⟨g48, h⟩ := h
      obtain ⟨g49, h⟩ := h
      refine xr_iald hx hb hK hh g48 g49 dX6_writes_50 ?_
      obtain ⟨g50, h⟩ := h
      obtain ⟨g51, h⟩ := h
      refine xr_iast hx hb hK hh g50 hS g51 dX6_writes_51 (fun H locs hh hS => ?_)
      obtain ⟨m52, em52⟩ : ∃ z : MM, z = sAI m0 b45 (va_up (mAI m0 b45) l6.toNatClampNeg (mAI m0 b47 (l6 - (1 : Int32)).toNatClampNeg)) := ⟨_, rfl⟩
      rw [← em52] at hh
      replace h := h m52 em52
      refine lv_aload_n hx hb dX6_writes_52 rfl (lv_at hl 0 rfl) ?_
      obtain ⟨g53, h⟩ := h
      obtain ⟨b54, eb54, h⟩ := h
      refine xr_getR (ci := 6) (C := RX6) (T := TX6) (N := 17) hx hb hL6 hown hK hh g53 (by decide) rfl 7 127 rfl rfl (by decide) (by decide) q4 (fun _ h9 => h9) eb54 dX6_writes_53 ?_
      refine lv_iload hx hb dX6_writes_56 (lv_at hl 6 rfl) ?_
      refine lv_aload_n hx hb dX6_writes_58 rfl (lv_at hl 0 rfl) ?_
      obtain ⟨g55, h⟩ := h
      obtain ⟨b56, eb56, h⟩ := h
      refine xr_getR (ci := 6) (C := RX6) (T := TX6) (N := 17) hx hb hL6 hown hK hh g55 (by decide) rfl 7 127 rfl rfl (by decide) (by decide) q4 (fun _ h9 => h9) eb56 dX6_writes_59 ?_
      refine lv_iload hx hb dX6_writes_62 (lv_at hl 6 rfl) ?_
      refine lv_iconst (v := 1) hx hb dX6_writes_64 (by decide) ?_
      refine lv_isub hx hb dX6_writes_65 ?_
      obtain ⟨g57, h⟩ := h
      obtain ⟨g58, h⟩ := h
      refine xr_iald hx hb hK hh g57 g58 dX6_writes_66 ?_
      obtain ⟨g59, h⟩ := h
      obtain ⟨g60, h⟩ := h
      refine xr_iast hx hb hK hh g59 hS g60 dX6_writes_67 (fun H locs hh hS => ?_)
      obtain ⟨m61, em61⟩ : ∃ z : MM, z = sAI m52 b54 (va_up (mAI m52 b54) l6.toNatClampNeg (mAI m52 b56 (l6 - (1 : Int32)).toNatClampNeg)) := ⟨_, rfl⟩
      rw [← em61] at hh
      replace h := h m61 em61
      refine lv_aload_n hx hb dX6_writes_68 rfl (lv_at hl 0 rfl) ?_
      obtain ⟨g62, h⟩ := h
      obtain ⟨b63, eb63, h⟩ := h
      refine xr_getR (ci := 6) (C := RX6) (T := TX6) (N := 17) hx hb hL6 hown hK hh g62 (by decide) rfl 8 128 rfl rfl (by decide) (by decide) q5 (fun _ h9 => h9) eb63 dX6_writes_69 ?_
      refine lv_iload hx hb dX6_writes_72 (lv_at hl 6 rfl) ?_
      refine lv_aload_n hx hb dX6_writes_74 rfl (lv_at hl 0 rfl) ?_
      obtain ⟨g64, h⟩ := h
      obtain ⟨b65, eb65, h⟩ := h
      refine xr_getR (ci := 6) (C := RX6) (T := TX6) (N := 17) hx hb hL6 hown hK hh g64 (by decide) rfl 8 128 rfl rfl (by decide) (by decide) q5 (fun _ h9 => h9) eb65 dX6_writes_75 ?_
      refine lv_iload hx hb dX6_writes_78 (lv_at hl 6 rfl) ?_
      refine lv_iconst (v := 1) hx hb dX6_writes_80 (by decide) ?_
      refine lv_isub hx hb dX6_writes_81 ?_
      obtain ⟨g66, h⟩ := h
      obtain ⟨g67, h⟩ := h
      refine xr_iald hx hb hK hh g66 g67 dX6_writes_82 ?_
      obtain ⟨g68, h⟩ := h
      obtain ⟨g69, h⟩ := h
      refine xr_iast hx hb hK hh g68 hS g69 dX6_writes_83 (fun H locs hh hS => ?_)
      obtain ⟨m70, em70⟩ : ∃ z : MM, z = sAI m61 b63 (va_up (mAI m61 b63) l6.toNatClampNeg (mAI m61 b65 (l6 - (1 : Int32)).toNatClampNeg)) := ⟨_, rfl⟩
      rw [← em70] at hh
      replace h := h m70 em70
      obtain ⟨x71, ex71⟩ : ∃ y : Int32, y = l6 + (-1) := ⟨_, rfl⟩
      replace h := h x71 ex71
      refine lv_iinc (v := x71) (lv' := [(6, .int x71), (0, .ref l0), (1, .int l1), (2, .int l2), (3, .int l3), (4, .int l4), (5, .int l5)]) hx hb dX6_writes_84 hl (k := 6) rfl (by rw [ex71]; rfl) (by decide) rfl (fun ls hl => ?_)
      refine lv_goto (tgt := 29) hx hb dX6_writes_87 (by decide) ?_
      exact ih _ _ _ _ _ _ _ _ _ _ _ h hh hS (lv_sub hl [1, 2, 3, 4, 5, 6, 0] rfl)

set_option maxHeartbeats 4000000 in
set_option maxRecDepth 100000 in
theorem mt_X6_writes (l : Launch) (G : GG) (base : Nat) {a0 : Nat} {p1 : Int32} {p2 : Int32} {p3 : Int32} {m0 : MM} {Q : Int32 → MM → Prop} (h : wp_X6_writes a0 p1 p2 p3 m0 Q) : Met l yX6_writes wsX6_writes ({ frames := 1, cells := 0, slots := 0, locals := 31 }) (va_Pc [.ref a0, .int p1, .int p2, .int p3] (SP G base m0)) (va_Qi Q (HB G base) (xA base)) 0 0 (xA base) := by
  refine Met.ofW (cc := cX6_writes) (maxL := 7) (ret := (some .boolean)) (by decide) rfl ?_
  intro p e s m args below meth c s₁ B hml hv
  obtain ⟨rfl, hbase, hh, hK, hX⟩ := hv
  have C0 : BC p s m _ meth c G base RX6 cX6_writes 7 (some .boolean) wsX6_writes := ⟨B.exec, B.bytes, B.returns, hml, findClass_of_methodNamed B.named, atoms_spec (ws := wsX6_writes) B.pre, B.notSynchronized, hK, hbase, hX⟩
  obtain ⟨hx, hb, hr, -, hown, hts, hlocks, -, -, -⟩ := id C0
  have hS : va_S (xA base) s.heap s.heap [] := va_S.rf
  have hl := lv_entry ([.ref a0, .int p1, .int p2, .int p3]) (n := 7) (Nat.le_of_ble_eq_true rfl)
  rw [lg_entry_eq]
  generalize (lg_sl ([.ref a0, .int p1, .int p2, .int p3]) ++ List.replicate (7 - (lg_sl ([.ref a0, .int p1, .int p2, .int p3])).length) Slot.unset).toArray = ls at hl ⊢
  have hl : lv_has ls 7 [(0, .ref a0), (1, .int p1), (2, .int p2), (3, .int p3)] := hl
  unfold wp_X6_writes at h
  have hL6 : ∀ w ∈ u_ws RX6 TX6 17, w.before _ s = true := fun w h9 => hts w (List.mem_cons_of_mem _ (List.mem_append_right _ (h9)))
  have q2 : (Cond.fieldLink RX6 19 "RollupStoreModel" "who" "[I").before _ s = true := hts _ (List.mem_cons_of_mem _ (List.mem_append_left _ (List.mem_of_getElem? (i := 1) rfl)))
  have q3 : (Cond.fieldLink RX6 22 "RollupStoreModel" "time" "[I").before _ s = true := hts _ (List.mem_cons_of_mem _ (List.mem_append_left _ (List.mem_of_getElem? (i := 2) rfl)))
  have q4 : (Cond.fieldLink RX6 25 "RollupStoreModel" "value" "[I").before _ s = true := hts _ (List.mem_cons_of_mem _ (List.mem_append_left _ (List.mem_of_getElem? (i := 3) rfl)))
  have q5 : (Cond.fieldLink RX6 46 "RollupStoreModel" "all" "I").before _ s = true := hts _ (List.mem_cons_of_mem _ (List.mem_append_left _ (List.mem_of_getElem? (i := 0) rfl)))
  refine lv_aload_n hx hb dX6_writes_0 rfl (lv_at hl 0 rfl) ?_
  refine lv_iload_n hx hb dX6_writes_1 rfl (lv_at hl 1 rfl) ?_
  refine lv_iload_n hx hb dX6_writes_2 rfl (lv_at hl 2 rfl) ?_
  obtain ⟨g1, h⟩ := h
  refine xc_i (va_runV (As := [.int p1, .int p2]) (rest := []) ⟨hx, hb, hml, hown, hts⟩ (mt_X6_place l G base h) (cwV 2 hts gX6_writes_X6_place rfl rfl rfl (by decide +kernel) ⟨Nat.le_of_ble_eq_true rfl, Nat.le_of_ble_eq_true rfl⟩) (xp_V hbase hh hK hX hS (ci := 6) g1 (by decide) rfl) rfl rfl hl.1 rfl (lv_room (Nat.le_of_ble_eq_true rfl)) dX6_writes_3 ⟨Nat.le_of_ble_eq_true rfl, Nat.le_of_ble_eq_true rfl⟩) hS (fun r2 m3 H locs h hh hS => ?_)
  refine lv_istore (lv' := [(4, .int r2), (0, .ref a0), (1, .int p1), (2, .int p2), (3, .int p3)]) hx hb dX6_writes_6 hl (by decide) rfl (fun ls hl => ?_)
  refine lv_aload_n hx hb dX6_writes_8 rfl (lv_at hl 1 rfl) ?_
  refine lv_iload hx hb dX6_writes_9 (lv_at hl 0 rfl) ?_
  refine lv_iload_n hx hb dX6_writes_11 rfl (lv_at hl 2 rfl) ?_
  refine lv_iload_n hx hb dX6_writes_12 rfl (lv_at hl 3 rfl) ?_
  obtain ⟨g4, h⟩ := h
  refine xc_i (va_runV (As := [.int r2, .int p1, .int p2]) (rest := []) ⟨hx, hb, hml, hown, hts⟩ (mt_X6_isAt l G base h) (cwV 3 hts gX6_writes_X6_isAt rfl rfl rfl (by decide +kernel) ⟨Nat.le_of_ble_eq_true rfl, Nat.le_of_ble_eq_true rfl⟩) (xp_V hbase hh hK hX hS (ci := 6) g4 (by decide) rfl) rfl rfl hl.1 rfl (lv_room (Nat.le_of_ble_eq_true rfl)) dX6_writes_13 ⟨Nat.le_of_ble_eq_true rfl, Nat.le_of_ble_eq_true rfl⟩) hS (fun r5 m6 H locs h hh hS => ?_)
  refine lv_istore (lv' := [(5, .int r5), (4, .int r2), (0, .ref a0), (1, .int p1), (2, .int p2), (3, .int p3)]) hx hb dX6_writes_16 hl (by decide) rfl (fun ls hl => ?_)
  refine lv_iload hx hb dX6_writes_18 (lv_at hl 0 rfl) ?_
  refine lv_if_ne (tgt := 100) hx hb dX6_writes_20 (by decide) (fun c7 => ?_) (fun c7 => ?_)
  · replace h := h.1 c7
    refine lv_aload_n hx hb dX6_writes_100 rfl (lv_at hl 2 rfl) ?_
    obtain ⟨g8, h⟩ := h
    obtain ⟨b9, eb9, h⟩ := h
    refine xr_getR (ci := 6) (C := RX6) (T := TX6) (N := 17) hx hb hL6 hown hK hh g8 (by decide) rfl 6 126 rfl rfl (by decide) (by decide) q2 (fun _ h9 => h9) eb9 dX6_writes_101 ?_
    refine lv_iload hx hb dX6_writes_104 (lv_at hl 1 rfl) ?_
    refine lv_iload_n hx hb dX6_writes_106 rfl (lv_at hl 3 rfl) ?_
    obtain ⟨g10, h⟩ := h
    obtain ⟨g11, h⟩ := h
    refine xr_iast hx hb hK hh g10 hS g11 dX6_writes_107 (fun H locs hh hS => ?_)
    obtain ⟨m12, em12⟩ : ∃ z : MM, z = sAI m6 b9 (va_up (mAI m6 b9) r2.toNatClampNeg p1) := ⟨_, rfl⟩
    rw [← em12] at hh
    replace h := h m12 em12
    refine lv_aload_n hx hb dX6_writes_108 rfl (lv_at hl 2 rfl) ?_
    obtain ⟨g13, h⟩ := h
    obtain ⟨b14, eb14, h⟩ := h
    refine xr_getR (ci := 6) (C := RX6) (T := TX6) (N := 17) hx hb hL6 hown hK hh g13 (by decide) rfl 7 127 rfl rfl (by decide) (by decide) q3 (fun _ h9 => h9) eb14 dX6_writes_109 ?_
    refine lv_iload hx hb dX6_writes_112 (lv_at hl 1 rfl) ?_
    refine lv_iload_n hx hb dX6_writes_114 rfl (lv_at hl 4 rfl) ?_
    obtain ⟨g15, h⟩ := h
    obtain ⟨g16, h⟩ := h
    refine xr_iast hx hb hK hh g15 hS g16 dX6_writes_115 (fun H locs hh hS => ?_)
    obtain ⟨m17, em17⟩ : ∃ z : MM, z = sAI m12 b14 (va_up (mAI m12 b14) r2.toNatClampNeg p2) := ⟨_, rfl⟩
    rw [← em17] at hh
    replace h := h m17 em17
    refine lv_aload_n hx hb dX6_writes_116 rfl (lv_at hl 2 rfl) ?_
    obtain ⟨g18, h⟩ := h
    obtain ⟨b19, eb19, h⟩ := h
    refine xr_getR (ci := 6) (C := RX6) (T := TX6) (N := 17) hx hb hL6 hown hK hh g18 (by decide) rfl 8 128 rfl rfl (by decide) (by decide) q4 (fun _ h9 => h9) eb19 dX6_writes_117 ?_
    refine lv_iload hx hb dX6_writes_120 (lv_at hl 1 rfl) ?_
    refine lv_iload_n hx hb dX6_writes_122 rfl (lv_at hl 5 rfl) ?_
    obtain ⟨g20, h⟩ := h
    obtain ⟨g21, h⟩ := h
    refine xr_iast hx hb hK hh g20 hS g21 dX6_writes_123 (fun H locs hh hS => ?_)
    obtain ⟨m22, em22⟩ : ∃ z : MM, z = sAI m17 b19 (va_up (mAI m17 b19) r2.toNatClampNeg p3) := ⟨_, rfl⟩
    rw [← em22] at hh
    replace h := h m22 em22
    refine lv_iload hx hb dX6_writes_124 (lv_at hl 0 rfl) ?_
    exact (xe_z hx hb hr hlocks hbase hh hK hX hS h.1 h.2 (Nat.le_of_ble_eq_true rfl) (Nat.le_of_ble_eq_true rfl) dX6_writes_126)
  · replace h := h.2 c7
    refine lv_aload_n hx hb dX6_writes_23 rfl (lv_at hl 2 rfl) ?_
    obtain ⟨g23, h⟩ := h
    refine xr_getI (ci := 6) (C := RX6) (T := TX6) (N := 17) hx hb hL6 hown hK hh g23 (by decide) rfl 2 122 rfl rfl (by decide) (by decide) q5 (fun _ h9 => h9) dX6_writes_24 ?_
    refine lv_topi (fun x24 ex24 => ?_)
    replace h := h x24 ex24
    refine lv_istore (lv' := [(6, .int x24), (5, .int r5), (4, .int r2), (0, .ref a0), (1, .int p1), (2, .int p2), (3, .int p3)]) hx hb dX6_writes_27 hl (by decide) rfl (fun ls hl => ?_)
    obtain ⟨n9, h⟩ := h
    exact bk_X6_writes_29 C0  n9 _ _ _ _ _ _ _ _ _ _ _ h hh hS (lv_sub hl [3, 4, 5, 6, 2, 1, 0] rfl)

set_option maxHeartbeats 4000000 in
set_option maxRecDepth 100000 in
theorem mt_X6_put (l : Launch) (G : GG) (base : Nat) {a0 : Nat} {p1 : Int32} {p2 : Int32} {p3 : Int32} {m0 : MM} {Q : Int32 → MM → Prop} (h : wp_X6_put a0 p1 p2 p3 m0 Q) : Met l yX6_put wsX6_put ({ frames := 3, cells := 0, slots := 0, locals := 76 }) (va_Pc [.ref a0, .int p1, .int p2, .int p3] (SP G base m0)) (va_Qi Q (HB G base) (xA base)) 0 0 (xA base) := by
  refine Met.ofW (cc := cX6_put) (maxL := 4) (ret := (some .boolean)) (by decide) rfl ?_
  intro p e s m args below meth c s₁ B hml hv
  obtain ⟨rfl, hbase, hh, hK, hX⟩ := hv
  have C0 : BC p s m _ meth c G base RX6 cX6_put 4 (some .boolean) wsX6_put := ⟨B.exec, B.bytes, B.returns, hml, findClass_of_methodNamed B.named, atoms_spec (ws := wsX6_put) B.pre, B.notSynchronized, hK, hbase, hX⟩
  obtain ⟨hx, hb, hr, -, hown, hts, hlocks, -, -, -⟩ := id C0
  have hS : va_S (xA base) s.heap s.heap [] := va_S.rf
  have hl := lv_entry ([.ref a0, .int p1, .int p2, .int p3]) (n := 4) (Nat.le_of_ble_eq_true rfl)
  rw [lg_entry_eq]
  generalize (lg_sl ([.ref a0, .int p1, .int p2, .int p3]) ++ List.replicate (4 - (lg_sl ([.ref a0, .int p1, .int p2, .int p3])).length) Slot.unset).toArray = ls at hl ⊢
  have hl : lv_has ls 4 [(0, .ref a0), (1, .int p1), (2, .int p2), (3, .int p3)] := hl
  unfold wp_X6_put at h
  refine lv_aload_n hx hb dX6_put_0 rfl (lv_at hl 0 rfl) ?_
  refine lv_aload_n hx hb dX6_put_1 rfl (lv_at hl 0 rfl) ?_
  refine lv_iload_n hx hb dX6_put_2 rfl (lv_at hl 1 rfl) ?_
  obtain ⟨g1, h⟩ := h
  refine xc_i (va_runV (As := [.int p1]) (rest := [.ref a0]) ⟨hx, hb, hml, hown, hts⟩ (mt_X6_isSeries l G base h) (cwV 1 hts gX6_put_X6_isSeries rfl rfl rfl (by decide +kernel) ⟨Nat.le_of_ble_eq_true rfl, Nat.le_of_ble_eq_true rfl⟩) (xp_V hbase hh hK hX hS (ci := 6) g1 (by decide) rfl) rfl rfl hl.1 rfl (lv_room (Nat.le_of_ble_eq_true rfl)) dX6_put_3 ⟨Nat.le_of_ble_eq_true rfl, Nat.le_of_ble_eq_true rfl⟩) hS (fun r2 m3 H locs h hh hS => ?_)
  refine lv_if_ne (tgt := 13) hx hb dX6_put_6 (by decide) (fun c4 => ?_) (fun c4 => ?_)
  · replace h := h.1 c4
    refine lv_aload_n hx hb dX6_put_13 rfl (lv_at hl 0 rfl) ?_
    refine lv_iload_n hx hb dX6_put_14 rfl (lv_at hl 1 rfl) ?_
    refine lv_iload_n hx hb dX6_put_15 rfl (lv_at hl 2 rfl) ?_
    refine lv_iload_n hx hb dX6_put_16 rfl (lv_at hl 3 rfl) ?_
    obtain ⟨g5, h⟩ := h
    refine xc_i (va_runV (As := [.int p1, .int p2, .int p3]) (rest := [.ref a0]) ⟨hx, hb, hml, hown, hts⟩ (mt_X6_fault l G base h) (cwV 3 hts gX6_put_X6_fault rfl rfl rfl (by decide +kernel) ⟨Nat.le_of_ble_eq_true rfl, Nat.le_of_ble_eq_true rfl⟩) (xp_V hbase hh hK hX hS (ci := 6) g5 (by decide) rfl) rfl rfl hl.1 rfl (lv_room (Nat.le_of_ble_eq_true rfl)) dX6_put_17 ⟨Nat.le_of_ble_eq_true rfl, Nat.le_of_ble_eq_true rfl⟩) hS (fun r6 m7 H locs h hh hS => ?_)
    obtain ⟨g8, h⟩ := h
    refine xc_i (va_runV (As := [.int r6]) (rest := []) ⟨hx, hb, hml, hown, hts⟩ (mt_X6_can l G base h) (cwV 1 hts gX6_put_X6_can rfl rfl rfl (by decide +kernel) ⟨Nat.le_of_ble_eq_true rfl, Nat.le_of_ble_eq_true rfl⟩) (xp_V hbase hh hK hX hS (ci := 6) g8 (by decide) rfl) rfl rfl hl.1 rfl (lv_room (Nat.le_of_ble_eq_true rfl)) dX6_put_20 ⟨Nat.le_of_ble_eq_true rfl, Nat.le_of_ble_eq_true rfl⟩) hS (fun r9 m10 H locs h hh hS => ?_)
    refine lv_if_eq (tgt := 40) hx hb dX6_put_23 (by decide) (fun c11 => ?_) (fun c11 => ?_)
    · replace h := h.1 c11
      refine lv_iconst (v := 0) hx hb dX6_put_40 (by decide) ?_
      exact (xe_z hx hb hr hlocks hbase hh hK hX hS (Or.inl rfl) h (Nat.le_of_ble_eq_true rfl) (Nat.le_of_ble_eq_true rfl) dX6_put_41)
    · replace h := h.2 c11
      refine lv_aload_n hx hb dX6_put_26 rfl (lv_at hl 0 rfl) ?_
      refine lv_iload_n hx hb dX6_put_27 rfl (lv_at hl 1 rfl) ?_
      refine lv_iload_n hx hb dX6_put_28 rfl (lv_at hl 2 rfl) ?_
      refine lv_iload_n hx hb dX6_put_29 rfl (lv_at hl 3 rfl) ?_
      obtain ⟨g12, h⟩ := h
      refine xc_i (va_runV (As := [.int p1, .int p2, .int p3]) (rest := []) ⟨hx, hb, hml, hown, hts⟩ (mt_X6_writes l G base h) (cwV 3 hts gX6_put_X6_writes rfl rfl rfl (by decide +kernel) ⟨Nat.le_of_ble_eq_true rfl, Nat.le_of_ble_eq_true rfl⟩) (xp_V hbase hh hK hX hS (ci := 6) g12 (by decide) rfl) rfl rfl hl.1 rfl (lv_room (Nat.le_of_ble_eq_true rfl)) dX6_put_30 ⟨Nat.le_of_ble_eq_true rfl, Nat.le_of_ble_eq_true rfl⟩) hS (fun r13 m14 H locs h hh hS => ?_)
      refine lv_if_eq (tgt := 40) hx hb dX6_put_33 (by decide) (fun c15 => ?_) (fun c15 => ?_)
      · replace h := h.1 c15
        refine lv_iconst (v := 0) hx hb dX6_put_40 (by decide) ?_
        exact (xe_z hx hb hr hlocks hbase hh hK hX hS (Or.inl rfl) h (Nat.le_of_ble_eq_true rfl) (Nat.le_of_ble_eq_true rfl) dX6_put_41)
      · replace h := h.2 c15
        refine lv_iconst (v := 1) hx hb dX6_put_36 (by decide) ?_
        refine lv_goto (tgt := 41) hx hb dX6_put_37 (by decide) ?_
        exact (xe_z hx hb hr hlocks hbase hh hK hX hS (Or.inr rfl) h (Nat.le_of_ble_eq_true rfl) (Nat.le_of_ble_eq_true rfl) dX6_put_41)
  · replace h := h.2 c4
    refine lv_iconst (v := 1) hx hb dX6_put_9 (by decide) ?_
    refine lv_goto (tgt := 20) hx hb dX6_put_10 (by decide) ?_
    obtain ⟨g16, h⟩ := h
    refine xc_i (va_runV (As := [.int (1 : Int32)]) (rest := []) ⟨hx, hb, hml, hown, hts⟩ (mt_X6_can l G base h) (cwV 1 hts gX6_put_X6_can rfl rfl rfl (by decide +kernel) ⟨Nat.le_of_ble_eq_true rfl, Nat.le_of_ble_eq_true rfl⟩) (xp_V hbase hh hK hX hS (ci := 6) g16 (by decide) rfl) rfl rfl hl.1 rfl (lv_room (Nat.le_of_ble_eq_true rfl)) dX6_put_20 ⟨Nat.le_of_ble_eq_true rfl, Nat.le_of_ble_eq_true rfl⟩) hS (fun r17 m18 H locs h hh hS => ?_)
    refine lv_if_eq (tgt := 40) hx hb dX6_put_23 (by decide) (fun c19 => ?_) (fun c19 => ?_)
    · replace h := h.1 c19
      refine lv_iconst (v := 0) hx hb dX6_put_40 (by decide) ?_
      exact (xe_z hx hb hr hlocks hbase hh hK hX hS (Or.inl rfl) h (Nat.le_of_ble_eq_true rfl) (Nat.le_of_ble_eq_true rfl) dX6_put_41)
    · replace h := h.2 c19
      refine lv_aload_n hx hb dX6_put_26 rfl (lv_at hl 0 rfl) ?_
      refine lv_iload_n hx hb dX6_put_27 rfl (lv_at hl 1 rfl) ?_
      refine lv_iload_n hx hb dX6_put_28 rfl (lv_at hl 2 rfl) ?_
      refine lv_iload_n hx hb dX6_put_29 rfl (lv_at hl 3 rfl) ?_
      obtain ⟨g20, h⟩ := h
      refine xc_i (va_runV (As := [.int p1, .int p2, .int p3]) (rest := []) ⟨hx, hb, hml, hown, hts⟩ (mt_X6_writes l G base h) (cwV 3 hts gX6_put_X6_writes rfl rfl rfl (by decide +kernel) ⟨Nat.le_of_ble_eq_true rfl, Nat.le_of_ble_eq_true rfl⟩) (xp_V hbase hh hK hX hS (ci := 6) g20 (by decide) rfl) rfl rfl hl.1 rfl (lv_room (Nat.le_of_ble_eq_true rfl)) dX6_put_30 ⟨Nat.le_of_ble_eq_true rfl, Nat.le_of_ble_eq_true rfl⟩) hS (fun r21 m22 H locs h hh hS => ?_)
      refine lv_if_eq (tgt := 40) hx hb dX6_put_33 (by decide) (fun c23 => ?_) (fun c23 => ?_)
      · replace h := h.1 c23
        refine lv_iconst (v := 0) hx hb dX6_put_40 (by decide) ?_
        exact (xe_z hx hb hr hlocks hbase hh hK hX hS (Or.inl rfl) h (Nat.le_of_ble_eq_true rfl) (Nat.le_of_ble_eq_true rfl) dX6_put_41)
      · replace h := h.2 c23
        refine lv_iconst (v := 1) hx hb dX6_put_36 (by decide) ?_
        refine lv_goto (tgt := 41) hx hb dX6_put_37 (by decide) ?_
        exact (xe_z hx hb hr hlocks hbase hh hK hX hS (Or.inr rfl) h (Nat.le_of_ble_eq_true rfl) (Nat.le_of_ble_eq_true rfl) dX6_put_41)

set_option maxHeartbeats 4000000 in
set_option maxRecDepth 100000 in
theorem bk_X6_putMany_84 {p : Program} {l : Launch} {e : Env} {s : State} {m : MethodId} {args : Array Value} {below : List Frame} {meth : Method} {c : Code} {G : GG} {base : Nat} (C0 : BC p s m args meth c G base RX6 cX6_putMany 10 (some .int) wsX6_putMany) {Q : Int32 → MM → Prop} : ∀ (n : Nat) (l0 : Nat) (l1 : Int32) (l2 : Int32) (l3 : Int32) (l4 : Int32) (l5 : Int32) (l6 : Int32) (l8 : Int32) (m0 : MM) (H : Heap) (locs : List Loc) (ls : Array Slot), wp_X6_putMany_84 Q n l0 l1 l2 l3 l4 l5 l6 l8 m0 → hp G (xA base) m0 H → va_S (xA base) s.heap H locs → lv_has ls 10 [(0, .ref l0), (1, .int l1), (2, .int l2), (3, .int l3), (4, .int l4), (5, .int l5), (6, .int l6), (8, .int l8)] → W p l e ({ frames := 3, cells := 0, slots := 0, locals := 76 } : Room) s m args below meth c H locs 0 0 (MQ below (va_Qi Q (HB G base) (xA base)) args s 0 0 (xA base)) (F0 m 84 ls []) := by
  obtain ⟨hx, hb, hr, hml, hown, hts, hlocks, hK, hbase, hX⟩ := id C0
  intro n
  induction n with
  | zero =>
    intro l0 l1 l2 l3 l4 l5 l6 l8 m0 H locs ls h
    unfold wp_X6_putMany_84 at h
    exact h.elim
  | succ n ih =>
    intro l0 l1 l2 l3 l4 l5 l6 l8 m0 H locs ls h hh hS hl
    unfold wp_X6_putMany_84 at h
    refine lv_iload hx hb dX6_putMany_84 (lv_at hl 7 rfl) ?_
    refine lv_iload hx hb dX6_putMany_86 (lv_at hl 6 rfl) ?_
    refine lv_icmp_ge (tgt := 140) hx hb dX6_putMany_88 (by decide) (fun c18 => ?_) (fun c18 => ?_)
    · replace h := h.1 c18
      refine lv_iload hx hb dX6_putMany_140 (lv_at hl 7 rfl) ?_
      exact (xe_i hx hb hr hlocks hbase hh hK hX hS h (Nat.le_of_ble_eq_true rfl) (Nat.le_of_ble_eq_true rfl) dX6_putMany_142)
    · replace h := h.2 c18
      refine lv_aload_n hx hb dX6_putMany_91 rfl (lv_at hl 0 rfl) ?_
      refine lv_iload_n hx hb dX6_putMany_92 rfl (lv_at hl 1 rfl) ?_
      refine lv_iload_n hx hb dX6_putMany_93 rfl (lv_at hl 2 rfl) ?_
      refine lv_iload hx hb dX6_putMany_94 (lv_at hl 7 rfl) ?_
      refine lv_iload hx hb dX6_putMany_96 (lv_at hl 4 rfl) ?_
      refine lv_imul hx hb dX6_putMany_98 ?_
      refine lv_iadd hx hb dX6_putMany_99 ?_
      refine lv_iload_n hx hb dX6_putMany_100 rfl (lv_at hl 3 rfl) ?_
      refine lv_iload hx hb dX6_putMany_101 (lv_at hl 7 rfl) ?_
      refine lv_iload hx hb dX6_putMany_103 (lv_at hl 5 rfl) ?_
      refine lv_imul hx hb dX6_putMany_105 ?_
      refine lv_iadd hx hb dX6_putMany_106 ?_
      obtain ⟨g19, h⟩ := h
      refine xc_i (va_runV (As := [.int l1, .int (l2 + (l8 * l4)), .int (l3 + (l8 * l5))]) (rest := []) ⟨hx, hb, hml, hown, hts⟩ (mt_X6_fault l G base h) (cwV 3 hts gX6_putMany_X6_fault rfl rfl rfl (by decide +kernel) ⟨Nat.le_of_ble_eq_true rfl, Nat.le_of_ble_eq_true rfl⟩) (xp_V hbase hh hK hX hS (ci := 6) g19 (by decide) rfl) rfl rfl hl.1 rfl (lv_room (Nat.le_of_ble_eq_true rfl)) dX6_putMany_107 ⟨Nat.le_of_ble_eq_true rfl, Nat.le_of_ble_eq_true rfl⟩) hS (fun r20 m21 H locs h hh hS => ?_)
      refine lv_if_ne (tgt := 140) hx hb dX6_putMany_110 (by decide) (fun c22 => ?_) (fun c22 => ?_)
      · replace h := h.1 c22
        refine lv_iload hx hb dX6_putMany_140 (lv_at hl 7 rfl) ?_
        exact (xe_i hx hb hr hlocks hbase hh hK hX hS h (Nat.le_of_ble_eq_true rfl) (Nat.le_of_ble_eq_true rfl) dX6_putMany_142)
      · replace h := h.2 c22
        refine lv_aload_n hx hb dX6_putMany_113 rfl (lv_at hl 0 rfl) ?_
        refine lv_iload_n hx hb dX6_putMany_114 rfl (lv_at hl 1 rfl) ?_
        refine lv_iload_n hx hb dX6_putMany_115 rfl (lv_at hl 2 rfl) ?_
        refine lv_iload hx hb dX6_putMany_116 (lv_at hl 7 rfl) ?_
        refine lv_iload hx hb dX6_putMany_118 (lv_at hl 4 rfl) ?_
        refine lv_imul hx hb dX6_putMany_120 ?_
        refine lv_iadd hx hb dX6_putMany_121 ?_
        refine lv_iload_n hx hb dX6_putMany_122 rfl (lv_at hl 3 rfl) ?_
        refine lv_iload hx hb dX6_putMany_123 (lv_at hl 7 rfl) ?_
        refine lv_iload hx hb dX6_putMany_125 (lv_at hl 5 rfl) ?_
        refine lv_imul hx hb dX6_putMany_127 ?_
        refine lv_iadd hx hb dX6_putMany_128 ?_
        obtain ⟨g23, h⟩ := h
        refine xc_i (va_runV (As := [.int l1, .int (l2 + (l8 * l4)), .int (l3 + (l8 * l5))]) (rest := []) ⟨hx, hb, hml, hown, hts⟩ (mt_X6_writes l G base h) (cwV 3 hts gX6_putMany_X6_writes rfl rfl rfl (by decide +kernel) ⟨Nat.le_of_ble_eq_true rfl, Nat.le_of_ble_eq_true rfl⟩) (xp_V hbase hh hK hX hS (ci := 6) g23 (by decide) rfl) rfl rfl hl.1 rfl (lv_room (Nat.le_of_ble_eq_true rfl)) dX6_putMany_129 ⟨Nat.le_of_ble_eq_true rfl, Nat.le_of_ble_eq_true rfl⟩) hS (fun r24 m25 H locs h hh hS => ?_)
        refine lv_istore (lv' := [(9, .int r24), (0, .ref l0), (1, .int l1), (2, .int l2), (3, .int l3), (4, .int l4), (5, .int l5), (6, .int l6), (8, .int l8)]) hx hb dX6_putMany_132 hl (by decide) rfl (fun ls hl => ?_)
        obtain ⟨x26, ex26⟩ : ∃ y : Int32, y = l8 + 1 := ⟨_, rfl⟩
        replace h := h x26 ex26
        refine lv_iinc (v := x26) (lv' := [(8, .int x26), (9, .int r24), (0, .ref l0), (1, .int l1), (2, .int l2), (3, .int l3), (4, .int l4), (5, .int l5), (6, .int l6)]) hx hb dX6_putMany_134 hl (k := 8) rfl (by rw [ex26]; rfl) (by decide) rfl (fun ls hl => ?_)
        refine lv_goto (tgt := 84) hx hb dX6_putMany_137 (by decide) ?_
        exact ih _ _ _ _ _ _ _ _ _ _ _ _ h hh hS (lv_sub hl [2, 3, 4, 5, 6, 7, 8, 0] rfl)

set_option maxHeartbeats 4000000 in
set_option maxRecDepth 100000 in
theorem mt_X6_putMany (l : Launch) (G : GG) (base : Nat) {a0 : Nat} {p1 : Int32} {p2 : Int32} {p3 : Int32} {p4 : Int32} {p5 : Int32} {p6 : Int32} {m0 : MM} {Q : Int32 → MM → Prop} (h : wp_X6_putMany a0 p1 p2 p3 p4 p5 p6 m0 Q) : Met l yX6_putMany wsX6_putMany ({ frames := 3, cells := 0, slots := 0, locals := 76 }) (va_Pc [.ref a0, .int p1, .int p2, .int p3, .int p4, .int p5, .int p6] (SP G base m0)) (va_Qi Q (HB G base) (xA base)) 0 0 (xA base) := by
  refine Met.ofW (cc := cX6_putMany) (maxL := 10) (ret := (some .int)) (by decide) rfl ?_
  intro p e s m args below meth c s₁ B hml hv
  obtain ⟨rfl, hbase, hh, hK, hX⟩ := hv
  have C0 : BC p s m _ meth c G base RX6 cX6_putMany 10 (some .int) wsX6_putMany := ⟨B.exec, B.bytes, B.returns, hml, findClass_of_methodNamed B.named, atoms_spec (ws := wsX6_putMany) B.pre, B.notSynchronized, hK, hbase, hX⟩
  obtain ⟨hx, hb, hr, -, hown, hts, hlocks, -, -, -⟩ := id C0
  have hS : va_S (xA base) s.heap s.heap [] := va_S.rf
  have hl := lv_entry ([.ref a0, .int p1, .int p2, .int p3, .int p4, .int p5, .int p6]) (n := 10) (Nat.le_of_ble_eq_true rfl)
  rw [lg_entry_eq]
  generalize (lg_sl ([.ref a0, .int p1, .int p2, .int p3, .int p4, .int p5, .int p6]) ++ List.replicate (10 - (lg_sl ([.ref a0, .int p1, .int p2, .int p3, .int p4, .int p5, .int p6])).length) Slot.unset).toArray = ls at hl ⊢
  have hl : lv_has ls 10 [(0, .ref a0), (1, .int p1), (2, .int p2), (3, .int p3), (4, .int p4), (5, .int p5), (6, .int p6)] := hl
  unfold wp_X6_putMany at h
  refine lv_iload hx hb dX6_putMany_0 (lv_at hl 4 rfl) ?_
  refine lv_iconst (v := 1) hx hb dX6_putMany_2 (by decide) ?_
  refine lv_sipush (v := 3600) hx hb dX6_putMany_3 (by decide) ?_
  refine xc_i (va_runS (As := [.int p4, .int (1 : Int32), .int (3600 : Int32)]) (rest := []) ⟨hx, hb, hml, hown, hts⟩ (mt_X6_isIn l G base h) (va_cwS 3 hts gX6_putMany_X6_isIn rfl rfl rfl (by decide +kernel) ⟨Nat.le_of_ble_eq_true rfl, Nat.le_of_ble_eq_true rfl⟩) (xp_S hbase hh hK hX hS) rfl rfl hl.1 rfl (lv_room (Nat.le_of_ble_eq_true rfl)) dX6_putMany_6 ⟨Nat.le_of_ble_eq_true rfl, Nat.le_of_ble_eq_true rfl⟩) hS (fun r1 m2 H locs h hh hS => ?_)
  refine lv_if_eq (tgt := 41) hx hb dX6_putMany_9 (by decide) (fun c3 => ?_) (fun c3 => ?_)
  · replace h := h.1 c3
    refine lv_iconst (v := 0) hx hb dX6_putMany_41 (by decide) ?_
    refine lv_topi (fun x4 ex4 => ?_)
    replace h := h x4 ex4
    refine lv_istore (lv' := [(7, .int x4), (0, .ref a0), (1, .int p1), (2, .int p2), (3, .int p3), (4, .int p4), (5, .int p5), (6, .int p6)]) hx hb dX6_putMany_42 hl (by decide) rfl (fun ls hl => ?_)
    refine lv_aload_n hx hb dX6_putMany_44 rfl (lv_at hl 1 rfl) ?_
    refine lv_aload_n hx hb dX6_putMany_45 rfl (lv_at hl 1 rfl) ?_
    refine lv_iload_n hx hb dX6_putMany_46 rfl (lv_at hl 2 rfl) ?_
    obtain ⟨g5, h⟩ := h
    refine xc_i (va_runV (As := [.int p1]) (rest := [.ref a0]) ⟨hx, hb, hml, hown, hts⟩ (mt_X6_isSeries l G base h) (cwV 1 hts gX6_putMany_X6_isSeries rfl rfl rfl (by decide +kernel) ⟨Nat.le_of_ble_eq_true rfl, Nat.le_of_ble_eq_true rfl⟩) (xp_V hbase hh hK hX hS (ci := 6) g5 (by decide) rfl) rfl rfl hl.1 rfl (lv_room (Nat.le_of_ble_eq_true rfl)) dX6_putMany_47 ⟨Nat.le_of_ble_eq_true rfl, Nat.le_of_ble_eq_true rfl⟩) hS (fun r6 m7 H locs h hh hS => ?_)
    refine lv_if_ne (tgt := 57) hx hb dX6_putMany_50 (by decide) (fun c8 => ?_) (fun c8 => ?_)
    · replace h := h.1 c8
      refine lv_iload hx hb dX6_putMany_57 (lv_at hl 0 rfl) ?_
      refine lv_if_ne (tgt := 66) hx hb dX6_putMany_59 (by decide) (fun c9 => ?_) (fun c9 => ?_)
      · replace h := h.1 c9
        refine lv_aload_n hx hb dX6_putMany_66 rfl (lv_at hl 1 rfl) ?_
        refine lv_iload_n hx hb dX6_putMany_67 rfl (lv_at hl 2 rfl) ?_
        refine lv_iload_n hx hb dX6_putMany_68 rfl (lv_at hl 3 rfl) ?_
        refine lv_iload_n hx hb dX6_putMany_69 rfl (lv_at hl 4 rfl) ?_
        obtain ⟨g10, h⟩ := h
        refine xc_i (va_runV (As := [.int p1, .int p2, .int p3]) (rest := [.ref a0]) ⟨hx, hb, hml, hown, hts⟩ (mt_X6_fault l G base h) (cwV 3 hts gX6_putMany_X6_fault rfl rfl rfl (by decide +kernel) ⟨Nat.le_of_ble_eq_true rfl, Nat.le_of_ble_eq_true rfl⟩) (xp_V hbase hh hK hX hS (ci := 6) g10 (by decide) rfl) rfl rfl hl.1 rfl (lv_room (Nat.le_of_ble_eq_true rfl)) dX6_putMany_70 ⟨Nat.le_of_ble_eq_true rfl, Nat.le_of_ble_eq_true rfl⟩) hS (fun r11 m12 H locs h hh hS => ?_)
        obtain ⟨g13, h⟩ := h
        refine xc_i (va_runV (As := [.int r11]) (rest := []) ⟨hx, hb, hml, hown, hts⟩ (mt_X6_can l G base h) (cwV 1 hts gX6_putMany_X6_can rfl rfl rfl (by decide +kernel) ⟨Nat.le_of_ble_eq_true rfl, Nat.le_of_ble_eq_true rfl⟩) (xp_V hbase hh hK hX hS (ci := 6) g13 (by decide) rfl) rfl rfl hl.1 rfl (lv_room (Nat.le_of_ble_eq_true rfl)) dX6_putMany_73 ⟨Nat.le_of_ble_eq_true rfl, Nat.le_of_ble_eq_true rfl⟩) hS (fun r14 m15 H locs h hh hS => ?_)
        refine lv_if_ne (tgt := 81) hx hb dX6_putMany_76 (by decide) (fun c16 => ?_) (fun c16 => ?_)
        · replace h := h.1 c16
          refine lv_iconst (v := 0) hx hb dX6_putMany_81 (by decide) ?_
          refine lv_topi (fun x17 ex17 => ?_)
          replace h := h x17 ex17
          refine lv_istore (lv' := [(8, .int x17), (7, .int x4), (0, .ref a0), (1, .int p1), (2, .int p2), (3, .int p3), (4, .int p4), (5, .int p5), (6, .int p6)]) hx hb dX6_putMany_82 hl (by decide) rfl (fun ls hl => ?_)
          obtain ⟨n9, h⟩ := h
          exact bk_X6_putMany_84 C0  n9 _ _ _ _ _ _ _ _ _ _ _ _ h hh hS (lv_sub hl [2, 3, 4, 5, 6, 7, 8, 0] rfl)
        · replace h := h.2 c16
          refine lv_iconst (v := 0) hx hb dX6_putMany_79 (by decide) ?_
          exact (xe_i hx hb hr hlocks hbase hh hK hX hS h (Nat.le_of_ble_eq_true rfl) (Nat.le_of_ble_eq_true rfl) dX6_putMany_80)
      · replace h := h.2 c9
        refine lv_iconst (v := 2) hx hb dX6_putMany_62 (by decide) ?_
        refine lv_goto (tgt := 73) hx hb dX6_putMany_63 (by decide) ?_
        obtain ⟨g27, h⟩ := h
        refine xc_i (va_runV (As := [.int (2 : Int32)]) (rest := []) ⟨hx, hb, hml, hown, hts⟩ (mt_X6_can l G base h) (cwV 1 hts gX6_putMany_X6_can rfl rfl rfl (by decide +kernel) ⟨Nat.le_of_ble_eq_true rfl, Nat.le_of_ble_eq_true rfl⟩) (xp_V hbase hh hK hX hS (ci := 6) g27 (by decide) rfl) rfl rfl hl.1 rfl (lv_room (Nat.le_of_ble_eq_true rfl)) dX6_putMany_73 ⟨Nat.le_of_ble_eq_true rfl, Nat.le_of_ble_eq_true rfl⟩) hS (fun r28 m29 H locs h hh hS => ?_)
        refine lv_if_ne (tgt := 81) hx hb dX6_putMany_76 (by decide) (fun c30 => ?_) (fun c30 => ?_)
        · replace h := h.1 c30
          refine lv_iconst (v := 0) hx hb dX6_putMany_81 (by decide) ?_
          refine lv_topi (fun x31 ex31 => ?_)
          replace h := h x31 ex31
          refine lv_istore (lv' := [(8, .int x31), (7, .int x4), (0, .ref a0), (1, .int p1), (2, .int p2), (3, .int p3), (4, .int p4), (5, .int p5), (6, .int p6)]) hx hb dX6_putMany_82 hl (by decide) rfl (fun ls hl => ?_)
          obtain ⟨n9, h⟩ := h
          exact bk_X6_putMany_84 C0  n9 _ _ _ _ _ _ _ _ _ _ _ _ h hh hS (lv_sub hl [2, 3, 4, 5, 6, 7, 8, 0] rfl)
        · replace h := h.2 c30
          refine lv_iconst (v := 0) hx hb dX6_putMany_79 (by decide) ?_
          exact (xe_i hx hb hr hlocks hbase hh hK hX hS h (Nat.le_of_ble_eq_true rfl) (Nat.le_of_ble_eq_true rfl) dX6_putMany_80)
    · replace h := h.2 c8
      refine lv_iconst (v := 1) hx hb dX6_putMany_53 (by decide) ?_
      refine lv_goto (tgt := 73) hx hb dX6_putMany_54 (by decide) ?_
      obtain ⟨g32, h⟩ := h
      refine xc_i (va_runV (As := [.int (1 : Int32)]) (rest := []) ⟨hx, hb, hml, hown, hts⟩ (mt_X6_can l G base h) (cwV 1 hts gX6_putMany_X6_can rfl rfl rfl (by decide +kernel) ⟨Nat.le_of_ble_eq_true rfl, Nat.le_of_ble_eq_true rfl⟩) (xp_V hbase hh hK hX hS (ci := 6) g32 (by decide) rfl) rfl rfl hl.1 rfl (lv_room (Nat.le_of_ble_eq_true rfl)) dX6_putMany_73 ⟨Nat.le_of_ble_eq_true rfl, Nat.le_of_ble_eq_true rfl⟩) hS (fun r33 m34 H locs h hh hS => ?_)
      refine lv_if_ne (tgt := 81) hx hb dX6_putMany_76 (by decide) (fun c35 => ?_) (fun c35 => ?_)
      · replace h := h.1 c35
        refine lv_iconst (v := 0) hx hb dX6_putMany_81 (by decide) ?_
        refine lv_topi (fun x36 ex36 => ?_)
        replace h := h x36 ex36
        refine lv_istore (lv' := [(8, .int x36), (7, .int x4), (0, .ref a0), (1, .int p1), (2, .int p2), (3, .int p3), (4, .int p4), (5, .int p5), (6, .int p6)]) hx hb dX6_putMany_82 hl (by decide) rfl (fun ls hl => ?_)
        obtain ⟨n9, h⟩ := h
        exact bk_X6_putMany_84 C0  n9 _ _ _ _ _ _ _ _ _ _ _ _ h hh hS (lv_sub hl [2, 3, 4, 5, 6, 7, 8, 0] rfl)
      · replace h := h.2 c35
        refine lv_iconst (v := 0) hx hb dX6_putMany_79 (by decide) ?_
        exact (xe_i hx hb hr hlocks hbase hh hK hX hS h (Nat.le_of_ble_eq_true rfl) (Nat.le_of_ble_eq_true rfl) dX6_putMany_80)
  · replace h := h.2 c3
    refine lv_iload hx hb dX6_putMany_12 (lv_at hl 5 rfl) ?_
    refine lv_sipush (v := -1000) hx hb dX6_putMany_14 (by decide) ?_
    refine lv_sipush (v := 1000) hx hb dX6_putMany_17 (by decide) ?_
    refine xc_i (va_runS (As := [.int p5, .int (-1000 : Int32), .int (1000 : Int32)]) (rest := []) ⟨hx, hb, hml, hown, hts⟩ (mt_X6_isIn l G base h) (va_cwS 3 hts gX6_putMany_X6_isIn rfl rfl rfl (by decide +kernel) ⟨Nat.le_of_ble_eq_true rfl, Nat.le_of_ble_eq_true rfl⟩) (xp_S hbase hh hK hX hS) rfl rfl hl.1 rfl (lv_room (Nat.le_of_ble_eq_true rfl)) dX6_putMany_20 ⟨Nat.le_of_ble_eq_true rfl, Nat.le_of_ble_eq_true rfl⟩) hS (fun r37 m38 H locs h hh hS => ?_)
    refine lv_if_eq (tgt := 41) hx hb dX6_putMany_23 (by decide) (fun c39 => ?_) (fun c39 => ?_)
    · replace h := h.1 c39
      refine lv_iconst (v := 0) hx hb dX6_putMany_41 (by decide) ?_
      refine lv_topi (fun x40 ex40 => ?_)
      replace h := h x40 ex40
      refine lv_istore (lv' := [(7, .int x40), (0, .ref a0), (1, .int p1), (2, .int p2), (3, .int p3), (4, .int p4), (5, .int p5), (6, .int p6)]) hx hb dX6_putMany_42 hl (by decide) rfl (fun ls hl => ?_)
      refine lv_aload_n hx hb dX6_putMany_44 rfl (lv_at hl 1 rfl) ?_
      refine lv_aload_n hx hb dX6_putMany_45 rfl (lv_at hl 1 rfl) ?_
      refine lv_iload_n hx hb dX6_putMany_46 rfl (lv_at hl 2 rfl) ?_
      obtain ⟨g41, h⟩ := h
      refine xc_i (va_runV (As := [.int p1]) (rest := [.ref a0]) ⟨hx, hb, hml, hown, hts⟩ (mt_X6_isSeries l G base h) (cwV 1 hts gX6_putMany_X6_isSeries rfl rfl rfl (by decide +kernel) ⟨Nat.le_of_ble_eq_true rfl, Nat.le_of_ble_eq_true rfl⟩) (xp_V hbase hh hK hX hS (ci := 6) g41 (by decide) rfl) rfl rfl hl.1 rfl (lv_room (Nat.le_of_ble_eq_true rfl)) dX6_putMany_47 ⟨Nat.le_of_ble_eq_true rfl, Nat.le_of_ble_eq_true rfl⟩) hS (fun r42 m43 H locs h hh hS => ?_)
      refine lv_if_ne (tgt := 57) hx hb dX6_putMany_50 (by decide) (fun c44 => ?_) (fun c44 => ?_)
      · replace h := h.1 c44
        refine lv_iload hx hb dX6_putMany_57 (lv_at hl 0 rfl) ?_
        refine lv_if_ne (tgt := 66) hx hb dX6_putMany_59 (by decide) (fun c45 => ?_) (fun c45 => ?_)
        · replace h := h.1 c45
          refine lv_aload_n hx hb dX6_putMany_66 rfl (lv_at hl 1 rfl) ?_
          refine lv_iload_n hx hb dX6_putMany_67 rfl (lv_at hl 2 rfl) ?_
          refine lv_iload_n hx hb dX6_putMany_68 rfl (lv_at hl 3 rfl) ?_
          refine lv_iload_n hx hb dX6_putMany_69 rfl (lv_at hl 4 rfl) ?_
          obtain ⟨g46, h⟩ := h
          refine xc_i (va_runV (As := [.int p1, .int p2, .int p3]) (rest := [.ref a0]) ⟨hx, hb, hml, hown, hts⟩ (mt_X6_fault l G base h) (cwV 3 hts gX6_putMany_X6_fault rfl rfl rfl (by decide +kernel) ⟨Nat.le_of_ble_eq_true rfl, Nat.le_of_ble_eq_true rfl⟩) (xp_V hbase hh hK hX hS (ci := 6) g46 (by decide) rfl) rfl rfl hl.1 rfl (lv_room (Nat.le_of_ble_eq_true rfl)) dX6_putMany_70 ⟨Nat.le_of_ble_eq_true rfl, Nat.le_of_ble_eq_true rfl⟩) hS (fun r47 m48 H locs h hh hS => ?_)
          obtain ⟨g49, h⟩ := h
          refine xc_i (va_runV (As := [.int r47]) (rest := []) ⟨hx, hb, hml, hown, hts⟩ (mt_X6_can l G base h) (cwV 1 hts gX6_putMany_X6_can rfl rfl rfl (by decide +kernel) ⟨Nat.le_of_ble_eq_true rfl, Nat.le_of_ble_eq_true rfl⟩) (xp_V hbase hh hK hX hS (ci := 6) g49 (by decide) rfl) rfl rfl hl.1 rfl (lv_room (Nat.le_of_ble_eq_true rfl)) dX6_putMany_73 ⟨Nat.le_of_ble_eq_true rfl, Nat.le_of_ble_eq_true rfl⟩) hS (fun r50 m51 H locs h hh hS => ?_)
          refine lv_if_ne (tgt := 81) hx hb dX6_putMany_76 (by decide) (fun c52 => ?_) (fun c52 => ?_)
          · replace h := h.1 c52
            refine lv_iconst (v := 0) hx hb dX6_putMany_81 (by decide) ?_
            refine lv_topi (fun x53 ex53 => ?_)
            replace h := h x53 ex53
            refine lv_istore (lv' := [(8, .int x53), (7, .int x40), (0, .ref a0), (1, .int p1), (2, .int p2), (3, .int p3), (4, .int p4), (5, .int p5), (6, .int p6)]) hx hb dX6_putMany_82 hl (by decide) rfl (fun ls hl => ?_)
            obtain ⟨n9, h⟩ := h
            exact bk_X6_putMany_84 C0  n9 _ _ _ _ _ _ _ _ _ _ _ _ h hh hS (lv_sub hl [2, 3, 4, 5, 6, 7, 8, 0] rfl)
          · replace h := h.2 c52
            refine lv_iconst (v := 0) hx hb dX6_putMany_79 (by decide) ?_
            exact (xe_i hx hb hr hlocks hbase hh hK hX hS h (Nat.le_of_ble_eq_true rfl) (Nat.le_of_ble_eq_true rfl) dX6_putMany_80)
        · replace h := h.2 c45
          refine lv_iconst (v := 2) hx hb dX6_putMany_62 (by decide) ?_
          refine lv_goto (tgt := 73) hx hb dX6_putMany_63 (by decide) ?_
          obtain ⟨g54, h⟩ := h
          refine xc_i (va_runV (As := [.int (2 : Int32)]) (rest := []) ⟨hx, hb, hml, hown, hts⟩ (mt_X6_can l G base h) (cwV 1 hts gX6_putMany_X6_can rfl rfl rfl (by decide +kernel) ⟨Nat.le_of_ble_eq_true rfl, Nat.le_of_ble_eq_true rfl⟩) (xp_V hbase hh hK hX hS (ci := 6) g54 (by decide) rfl) rfl rfl hl.1 rfl (lv_room (Nat.le_of_ble_eq_true rfl)) dX6_putMany_73 ⟨Nat.le_of_ble_eq_true rfl, Nat.le_of_ble_eq_true rfl⟩) hS (fun r55 m56 H locs h hh hS => ?_)
          refine lv_if_ne (tgt := 81) hx hb dX6_putMany_76 (by decide) (fun c57 => ?_) (fun c57 => ?_)
          · replace h := h.1 c57
            refine lv_iconst (v := 0) hx hb dX6_putMany_81 (by decide) ?_
            refine lv_topi (fun x58 ex58 => ?_)
            replace h := h x58 ex58
            refine lv_istore (lv' := [(8, .int x58), (7, .int x40), (0, .ref a0), (1, .int p1), (2, .int p2), (3, .int p3), (4, .int p4), (5, .int p5), (6, .int p6)]) hx hb dX6_putMany_82 hl (by decide) rfl (fun ls hl => ?_)
            obtain ⟨n9, h⟩ := h
            exact bk_X6_putMany_84 C0  n9 _ _ _ _ _ _ _ _ _ _ _ _ h hh hS (lv_sub hl [2, 3, 4, 5, 6, 7, 8, 0] rfl)
          · replace h := h.2 c57
            refine lv_iconst (v := 0) hx hb dX6_putMany_79 (by decide) ?_
            exact (xe_i hx hb hr hlocks hbase hh hK hX hS h (Nat.le_of_ble_eq_true rfl) (Nat.le_of_ble_eq_true rfl) dX6_putMany_80)
      · replace h := h.2 c44
        refine lv_iconst (v := 1) hx hb dX6_putMany_53 (by decide) ?_
        refine lv_goto (tgt := 73) hx hb dX6_putMany_54 (by decide) ?_
        obtain ⟨g59, h⟩ := h
        refine xc_i (va_runV (As := [.int (1 : Int32)]) (rest := []) ⟨hx, hb, hml, hown, hts⟩ (mt_X6_can l G base h) (cwV 1 hts gX6_putMany_X6_can rfl rfl rfl (by decide +kernel) ⟨Nat.le_of_ble_eq_true rfl, Nat.le_of_ble_eq_true rfl⟩) (xp_V hbase hh hK hX hS (ci := 6) g59 (by decide) rfl) rfl rfl hl.1 rfl (lv_room (Nat.le_of_ble_eq_true rfl)) dX6_putMany_73 ⟨Nat.le_of_ble_eq_true rfl, Nat.le_of_ble_eq_true rfl⟩) hS (fun r60 m61 H locs h hh hS => ?_)
        refine lv_if_ne (tgt := 81) hx hb dX6_putMany_76 (by decide) (fun c62 => ?_) (fun c62 => ?_)
        · replace h := h.1 c62
          refine lv_iconst (v := 0) hx hb dX6_putMany_81 (by decide) ?_
          refine lv_topi (fun x63 ex63 => ?_)
          replace h := h x63 ex63
          refine lv_istore (lv' := [(8, .int x63), (7, .int x40), (0, .ref a0), (1, .int p1), (2, .int p2), (3, .int p3), (4, .int p4), (5, .int p5), (6, .int p6)]) hx hb dX6_putMany_82 hl (by decide) rfl (fun ls hl => ?_)
          obtain ⟨n9, h⟩ := h
          exact bk_X6_putMany_84 C0  n9 _ _ _ _ _ _ _ _ _ _ _ _ h hh hS (lv_sub hl [2, 3, 4, 5, 6, 7, 8, 0] rfl)
        · replace h := h.2 c62
          refine lv_iconst (v := 0) hx hb dX6_putMany_79 (by decide) ?_
          exact (xe_i hx hb hr hlocks hbase hh hK hX hS h (Nat.le_of_ble_eq_true rfl) (Nat.le_of_ble_eq_true rfl) dX6_putMany_80)
    · replace h := h.2 c39
      refine lv_iload hx hb dX6_putMany_26 (lv_at hl 6 rfl) ?_
      refine lv_iconst (v := 1) hx hb dX6_putMany_28 (by decide) ?_
      refine lv_bipush (v := 20) hx hb dX6_putMany_29 (by decide) ?_
      refine xc_i (va_runS (As := [.int p6, .int (1 : Int32), .int (20 : Int32)]) (rest := []) ⟨hx, hb, hml, hown, hts⟩ (mt_X6_isIn l G base h) (va_cwS 3 hts gX6_putMany_X6_isIn rfl rfl rfl (by decide +kernel) ⟨Nat.le_of_ble_eq_true rfl, Nat.le_of_ble_eq_true rfl⟩) (xp_S hbase hh hK hX hS) rfl rfl hl.1 rfl (lv_room (Nat.le_of_ble_eq_true rfl)) dX6_putMany_31 ⟨Nat.le_of_ble_eq_true rfl, Nat.le_of_ble_eq_true rfl⟩) hS (fun r64 m65 H locs h hh hS => ?_)
      refine lv_if_eq (tgt := 41) hx hb dX6_putMany_34 (by decide) (fun c66 => ?_) (fun c66 => ?_)
      · replace h := h.1 c66
        refine lv_iconst (v := 0) hx hb dX6_putMany_41 (by decide) ?_
        refine lv_topi (fun x67 ex67 => ?_)
        replace h := h x67 ex67
        refine lv_istore (lv' := [(7, .int x67), (0, .ref a0), (1, .int p1), (2, .int p2), (3, .int p3), (4, .int p4), (5, .int p5), (6, .int p6)]) hx hb dX6_putMany_42 hl (by decide) rfl (fun ls hl => ?_)
        refine lv_aload_n hx hb dX6_putMany_44 rfl (lv_at hl 1 rfl) ?_
        refine lv_aload_n hx hb dX6_putMany_45 rfl (lv_at hl 1 rfl) ?_
        refine lv_iload_n hx hb dX6_putMany_46 rfl (lv_at hl 2 rfl) ?_
        obtain ⟨g68, h⟩ := h
        refine xc_i (va_runV (As := [.int p1]) (rest := [.ref a0]) ⟨hx, hb, hml, hown, hts⟩ (mt_X6_isSeries l G base h) (cwV 1 hts gX6_putMany_X6_isSeries rfl rfl rfl (by decide +kernel) ⟨Nat.le_of_ble_eq_true rfl, Nat.le_of_ble_eq_true rfl⟩) (xp_V hbase hh hK hX hS (ci := 6) g68 (by decide) rfl) rfl rfl hl.1 rfl (lv_room (Nat.le_of_ble_eq_true rfl)) dX6_putMany_47 ⟨Nat.le_of_ble_eq_true rfl, Nat.le_of_ble_eq_true rfl⟩) hS (fun r69 m70 H locs h hh hS => ?_)
        refine lv_if_ne (tgt := 57) hx hb dX6_putMany_50 (by decide) (fun c71 => ?_) (fun c71 => ?_)
        · replace h := h.1 c71
          refine lv_iload hx hb dX6_putMany_57 (lv_at hl 0 rfl) ?_
          refine lv_if_ne (tgt := 66) hx hb dX6_putMany_59 (by decide) (fun c72 => ?_) (fun c72 => ?_)
          · replace h := h.1 c72
            refine lv_aload_n hx hb dX6_putMany_66 rfl (lv_at hl 1 rfl) ?_
            refine lv_iload_n hx hb dX6_putMany_67 rfl (lv_at hl 2 rfl) ?_
            refine lv_iload_n hx hb dX6_putMany_68 rfl (lv_at hl 3 rfl) ?_
            refine lv_iload_n hx hb dX6_putMany_69 rfl (lv_at hl 4 rfl) ?_
            obtain ⟨g73, h⟩ := h
            refine xc_i (va_runV (As := [.int p1, .int p2, .int p3]) (rest := [.ref a0]) ⟨hx, hb, hml, hown, hts⟩ (mt_X6_fault l G base h) (cwV 3 hts gX6_putMany_X6_fault rfl rfl rfl (by decide +kernel) ⟨Nat.le_of_ble_eq_true rfl, Nat.le_of_ble_eq_true rfl⟩) (xp_V hbase hh hK hX hS (ci := 6) g73 (by decide) rfl) rfl rfl hl.1 rfl (lv_room (Nat.le_of_ble_eq_true rfl)) dX6_putMany_70 ⟨Nat.le_of_ble_eq_true rfl, Nat.le_of_ble_eq_true rfl⟩) hS (fun r74 m75 H locs h hh hS => ?_)
            obtain ⟨g76, h⟩ := h
            refine xc_i (va_runV (As := [.int r74]) (rest := []) ⟨hx, hb, hml, hown, hts⟩ (mt_X6_can l G base h) (cwV 1 hts gX6_putMany_X6_can rfl rfl rfl (by decide +kernel) ⟨Nat.le_of_ble_eq_true rfl, Nat.le_of_ble_eq_true rfl⟩) (xp_V hbase hh hK hX hS (ci := 6) g76 (by decide) rfl) rfl rfl hl.1 rfl (lv_room (Nat.le_of_ble_eq_true rfl)) dX6_putMany_73 ⟨Nat.le_of_ble_eq_true rfl, Nat.le_of_ble_eq_true rfl⟩) hS (fun r77 m78 H locs h hh hS => ?_)
            refine lv_if_ne (tgt := 81) hx hb dX6_putMany_76 (by decide) (fun c79 => ?_) (fun c79 => ?_)
            · replace h := h.1 c79
              refine lv_iconst (v := 0) hx hb dX6_putMany_81 (by decide) ?_
              refine lv_topi (fun x80 ex80 => ?_)
              replace h := h x80 ex80
              refine lv_istore (lv' := [(8, .int x80), (7, .int x67), (0, .ref a0), (1, .int p1), (2, .int p2), (3, .int p3), (4, .int p4), (5, .int p5), (6, .int p6)]) hx hb dX6_putMany_82 hl (by decide) rfl (fun ls hl => ?_)
              obtain ⟨n9, h⟩ := h
              exact bk_X6_putMany_84 C0  n9 _ _ _ _ _ _ _ _ _ _ _ _ h hh hS (lv_sub hl [2, 3, 4, 5, 6, 7, 8, 0] rfl)
            · replace h := h.2 c79
              refine lv_iconst (v := 0) hx hb dX6_putMany_79 (by decide) ?_
              exact (xe_i hx hb hr hlocks hbase hh hK hX hS h (Nat.le_of_ble_eq_true rfl) (Nat.le_of_ble_eq_true rfl) dX6_putMany_80)
          · replace h := h.2 c72
            refine lv_iconst (v := 2) hx hb dX6_putMany_62 (by decide) ?_
            refine lv_goto (tgt := 73) hx hb dX6_putMany_63 (by decide) ?_
            obtain ⟨g81, h⟩ := h
            refine xc_i (va_runV (As := [.int (2 : Int32)]) (rest := []) ⟨hx, hb, hml, hown, hts⟩ (mt_X6_can l G base h) (cwV 1 hts gX6_putMany_X6_can rfl rfl rfl (by decide +kernel) ⟨Nat.le_of_ble_eq_true rfl, Nat.le_of_ble_eq_true rfl⟩) (xp_V hbase hh hK hX hS (ci := 6) g81 (by decide) rfl) rfl rfl hl.1 rfl (lv_room (Nat.le_of_ble_eq_true rfl)) dX6_putMany_73 ⟨Nat.le_of_ble_eq_true rfl, Nat.le_of_ble_eq_true rfl⟩) hS (fun r82 m83 H locs h hh hS => ?_)
            refine lv_if_ne (tgt := 81) hx hb dX6_putMany_76 (by decide) (fun c84 => ?_) (fun c84 => ?_)
            · replace h := h.1 c84
              refine lv_iconst (v := 0) hx hb dX6_putMany_81 (by decide) ?_
              refine lv_topi (fun x85 ex85 => ?_)
              replace h := h x85 ex85
              refine lv_istore (lv' := [(8, .int x85), (7, .int x67), (0, .ref a0), (1, .int p1), (2, .int p2), (3, .int p3), (4, .int p4), (5, .int p5), (6, .int p6)]) hx hb dX6_putMany_82 hl (by decide) rfl (fun ls hl => ?_)
              obtain ⟨n9, h⟩ := h
              exact bk_X6_putMany_84 C0  n9 _ _ _ _ _ _ _ _ _ _ _ _ h hh hS (lv_sub hl [2, 3, 4, 5, 6, 7, 8, 0] rfl)
            · replace h := h.2 c84
              refine lv_iconst (v := 0) hx hb dX6_putMany_79 (by decide) ?_
              exact (xe_i hx hb hr hlocks hbase hh hK hX hS h (Nat.le_of_ble_eq_true rfl) (Nat.le_of_ble_eq_true rfl) dX6_putMany_80)
        · replace h := h.2 c71
          refine lv_iconst (v := 1) hx hb dX6_putMany_53 (by decide) ?_
          refine lv_goto (tgt := 73) hx hb dX6_putMany_54 (by decide) ?_
          obtain ⟨g86, h⟩ := h
          refine xc_i (va_runV (As := [.int (1 : Int32)]) (rest := []) ⟨hx, hb, hml, hown, hts⟩ (mt_X6_can l G base h) (cwV 1 hts gX6_putMany_X6_can rfl rfl rfl (by decide +kernel) ⟨Nat.le_of_ble_eq_true rfl, Nat.le_of_ble_eq_true rfl⟩) (xp_V hbase hh hK hX hS (ci := 6) g86 (by decide) rfl) rfl rfl hl.1 rfl (lv_room (Nat.le_of_ble_eq_true rfl)) dX6_putMany_73 ⟨Nat.le_of_ble_eq_true rfl, Nat.le_of_ble_eq_true rfl⟩) hS (fun r87 m88 H locs h hh hS => ?_)
          refine lv_if_ne (tgt := 81) hx hb dX6_putMany_76 (by decide) (fun c89 => ?_) (fun c89 => ?_)
          · replace h := h.1 c89
            refine lv_iconst (v := 0) hx hb dX6_putMany_81 (by decide) ?_
            refine lv_topi (fun x90 ex90 => ?_)
            replace h := h x90 ex90
            refine lv_istore (lv' := [(8, .int x90), (7, .int x67), (0, .ref a0), (1, .int p1), (2, .int p2), (3, .int p3), (4, .int p4), (5, .int p5), (6, .int p6)]) hx hb dX6_putMany_82 hl (by decide) rfl (fun ls hl => ?_)
            obtain ⟨n9, h⟩ := h
            exact bk_X6_putMany_84 C0  n9 _ _ _ _ _ _ _ _ _ _ _ _ h hh hS (lv_sub hl [2, 3, 4, 5, 6, 7, 8, 0] rfl)
          · replace h := h.2 c89
            refine lv_iconst (v := 0) hx hb dX6_putMany_79 (by decide) ?_
            exact (xe_i hx hb hr hlocks hbase hh hK hX hS h (Nat.le_of_ble_eq_true rfl) (Nat.le_of_ble_eq_true rfl) dX6_putMany_80)
      · replace h := h.2 c66
        refine lv_iconst (v := 1) hx hb dX6_putMany_37 (by decide) ?_
        refine lv_goto (tgt := 42) hx hb dX6_putMany_38 (by decide) ?_
        refine lv_topi (fun x91 ex91 => ?_)
        replace h := h x91 ex91
        refine lv_istore (lv' := [(7, .int x91), (0, .ref a0), (1, .int p1), (2, .int p2), (3, .int p3), (4, .int p4), (5, .int p5), (6, .int p6)]) hx hb dX6_putMany_42 hl (by decide) rfl (fun ls hl => ?_)
        refine lv_aload_n hx hb dX6_putMany_44 rfl (lv_at hl 1 rfl) ?_
        refine lv_aload_n hx hb dX6_putMany_45 rfl (lv_at hl 1 rfl) ?_
        refine lv_iload_n hx hb dX6_putMany_46 rfl (lv_at hl 2 rfl) ?_
        obtain ⟨g92, h⟩ := h
        refine xc_i (va_runV (As := [.int p1]) (rest := [.ref a0]) ⟨hx, hb, hml, hown, hts⟩ (mt_X6_isSeries l G base h) (cwV 1 hts gX6_putMany_X6_isSeries rfl rfl rfl (by decide +kernel) ⟨Nat.le_of_ble_eq_true rfl, Nat.le_of_ble_eq_true rfl⟩) (xp_V hbase hh hK hX hS (ci := 6) g92 (by decide) rfl) rfl rfl hl.1 rfl (lv_room (Nat.le_of_ble_eq_true rfl)) dX6_putMany_47 ⟨Nat.le_of_ble_eq_true rfl, Nat.le_of_ble_eq_true rfl⟩) hS (fun r93 m94 H locs h hh hS => ?_)
        refine lv_if_ne (tgt := 57) hx hb dX6_putMany_50 (by decide) (fun c95 => ?_) (fun c95 => ?_)
        · replace h := h.1 c95
          refine lv_iload hx hb dX6_putMany_57 (lv_at hl 0 rfl) ?_
          refine lv_if_ne (tgt := 66) hx hb dX6_putMany_59 (by decide) (fun c96 => ?_) (fun c96 => ?_)
          · replace h := h.1 c96
            refine lv_aload_n hx hb dX6_putMany_66 rfl (lv_at hl 1 rfl) ?_
            refine lv_iload_n hx hb dX6_putMany_67 rfl (lv_at hl 2 rfl) ?_
            refine lv_iload_n hx hb dX6_putMany_68 rfl (lv_at hl 3 rfl) ?_
            refine lv_iload_n hx hb dX6_putMany_69 rfl (lv_at hl 4 rfl) ?_
            obtain ⟨g97, h⟩ := h
            refine xc_i (va_runV (As := [.int p1, .int p2, .int p3]) (rest := [.ref a0]) ⟨hx, hb, hml, hown, hts⟩ (mt_X6_fault l G base h) (cwV 3 hts gX6_putMany_X6_fault rfl rfl rfl (by decide +kernel) ⟨Nat.le_of_ble_eq_true rfl, Nat.le_of_ble_eq_true rfl⟩) (xp_V hbase hh hK hX hS (ci := 6) g97 (by decide) rfl) rfl rfl hl.1 rfl (lv_room (Nat.le_of_ble_eq_true rfl)) dX6_putMany_70 ⟨Nat.le_of_ble_eq_true rfl, Nat.le_of_ble_eq_true rfl⟩) hS (fun r98 m99 H locs h hh hS => ?_)
            obtain ⟨g100, h⟩ := h
            refine xc_i (va_runV (As := [.int r98]) (rest := []) ⟨hx, hb, hml, hown, hts⟩ (mt_X6_can l G base h) (cwV 1 hts gX6_putMany_X6_can rfl rfl rfl (by decide +kernel) ⟨Nat.le_of_ble_eq_true rfl, Nat.le_of_ble_eq_true rfl⟩) (xp_V hbase hh hK hX hS (ci := 6) g100 (by decide) rfl) rfl rfl hl.1 rfl (lv_room (Nat.le_of_ble_eq_true rfl)) dX6_putMany_73 ⟨Nat.le_of_ble_eq_true rfl, Nat.le_of_ble_eq_true rfl⟩) hS (fun r101 m102 H locs h hh hS => ?_)
            refine lv_if_ne (tgt := 81) hx hb dX6_putMany_76 (by decide) (fun c103 => ?_) (fun c103 => ?_)
            · replace h := h.1 c103
              refine lv_iconst (v := 0) hx hb dX6_putMany_81 (by decide) ?_
              refine lv_topi (fun x104 ex104 => ?_)
              replace h := h x104 ex104
              refine lv_istore (lv' := [(8, .int x104), (7, .int x91), (0, .ref a0), (1, .int p1), (2, .int p2), (3, .int p3), (4, .int p4), (5, .int p5), (6, .int p6)]) hx hb dX6_putMany_82 hl (by decide) rfl (fun ls hl => ?_)
              obtain ⟨n9, h⟩ := h
              exact bk_X6_putMany_84 C0  n9 _ _ _ _ _ _ _ _ _ _ _ _ h hh hS (lv_sub hl [2, 3, 4, 5, 6, 7, 8, 0] rfl)
            · replace h := h.2 c103
              refine lv_iconst (v := 0) hx hb dX6_putMany_79 (by decide) ?_
              exact (xe_i hx hb hr hlocks hbase hh hK hX hS h (Nat.le_of_ble_eq_true rfl) (Nat.le_of_ble_eq_true rfl) dX6_putMany_80)
          · replace h := h.2 c96
            refine lv_iconst (v := 2) hx hb dX6_putMany_62 (by decide) ?_
            refine lv_goto (tgt := 73) hx hb dX6_putMany_63 (by decide) ?_
            obtain ⟨g105, h⟩ := h
            refine xc_i (va_runV (As := [.int (2 : Int32)]) (rest := []) ⟨hx, hb, hml, hown, hts⟩ (mt_X6_can l G base h) (cwV 1 hts gX6_putMany_X6_can rfl rfl rfl (by decide +kernel) ⟨Nat.le_of_ble_eq_true rfl, Nat.le_of_ble_eq_true rfl⟩) (xp_V hbase hh hK hX hS (ci := 6) g105 (by decide) rfl) rfl rfl hl.1 rfl (lv_room (Nat.le_of_ble_eq_true rfl)) dX6_putMany_73 ⟨Nat.le_of_ble_eq_true rfl, Nat.le_of_ble_eq_true rfl⟩) hS (fun r106 m107 H locs h hh hS => ?_)
            refine lv_if_ne (tgt := 81) hx hb dX6_putMany_76 (by decide) (fun c108 => ?_) (fun c108 => ?_)
            · replace h := h.1 c108
              refine lv_iconst (v := 0) hx hb dX6_putMany_81 (by decide) ?_
              refine lv_topi (fun x109 ex109 => ?_)
              replace h := h x109 ex109
              refine lv_istore (lv' := [(8, .int x109), (7, .int x91), (0, .ref a0), (1, .int p1), (2, .int p2), (3, .int p3), (4, .int p4), (5, .int p5), (6, .int p6)]) hx hb dX6_putMany_82 hl (by decide) rfl (fun ls hl => ?_)
              obtain ⟨n9, h⟩ := h
              exact bk_X6_putMany_84 C0  n9 _ _ _ _ _ _ _ _ _ _ _ _ h hh hS (lv_sub hl [2, 3, 4, 5, 6, 7, 8, 0] rfl)
            · replace h := h.2 c108
              refine lv_iconst (v := 0) hx hb dX6_putMany_79 (by decide) ?_
              exact (xe_i hx hb hr hlocks hbase hh hK hX hS h (Nat.le_of_ble_eq_true rfl) (Nat.le_of_ble_eq_true rfl) dX6_putMany_80)
        · replace h := h.2 c95
          refine lv_iconst (v := 1) hx hb dX6_putMany_53 (by decide) ?_
          refine lv_goto (tgt := 73) hx hb dX6_putMany_54 (by decide) ?_
          obtain ⟨g110, h⟩ := h
          refine xc_i (va_runV (As := [.int (1 : Int32)]) (rest := []) ⟨hx, hb, hml, hown, hts⟩ (mt_X6_can l G base h) (cwV 1 hts gX6_putMany_X6_can rfl rfl rfl (by decide +kernel) ⟨Nat.le_of_ble_eq_true rfl, Nat.le_of_ble_eq_true rfl⟩) (xp_V hbase hh hK hX hS (ci := 6) g110 (by decide) rfl) rfl rfl hl.1 rfl (lv_room (Nat.le_of_ble_eq_true rfl)) dX6_putMany_73 ⟨Nat.le_of_ble_eq_true rfl, Nat.le_of_ble_eq_true rfl⟩) hS (fun r111 m112 H locs h hh hS => ?_)
          refine lv_if_ne (tgt := 81) hx hb dX6_putMany_76 (by decide) (fun c113 => ?_) (fun c113 => ?_)
          · replace h := h.1 c113
            refine lv_iconst (v := 0) hx hb dX6_putMany_81 (by decide) ?_
            refine lv_topi (fun x114 ex114 => ?_)
            replace h := h x114 ex114
            refine lv_istore (lv' := [(8, .int x114), (7, .int x91), (0, .ref a0), (1, .int p1), (2, .int p2), (3, .int p3), (4, .int p4), (5, .int p5), (6, .int p6)]) hx hb dX6_putMany_82 hl (by decide) rfl (fun ls hl => ?_)
            obtain ⟨n9, h⟩ := h
            exact bk_X6_putMany_84 C0  n9 _ _ _ _ _ _ _ _ _ _ _ _ h hh hS (lv_sub hl [2, 3, 4, 5, 6, 7, 8, 0] rfl)
          · replace h := h.2 c113
            refine lv_iconst (v := 0) hx hb dX6_putMany_79 (by decide) ?_
            exact (xe_i hx hb hr hlocks hbase hh hK hX hS h (Nat.le_of_ble_eq_true rfl) (Nat.le_of_ble_eq_true rfl) dX6_putMany_80)

set_option maxHeartbeats 4000000 in
set_option maxRecDepth 100000 in
theorem bk_X6_erase_75 {p : Program} {l : Launch} {e : Env} {s : State} {m : MethodId} {args : Array Value} {below : List Frame} {meth : Method} {c : Code} {G : GG} {base : Nat} (C0 : BC p s m args meth c G base RX6 cX6_erase 6 (some .int) wsX6_erase) {Q : Int32 → MM → Prop} : ∀ (n : Nat) (l0 : Nat) (l4 : Int32) (l5 : Int32) (m0 : MM) (H : Heap) (locs : List Loc) (ls : Array Slot), wp_X6_erase_75 Q n l0 l4 l5 m0 → hp G (xA base) m0 H → va_S (xA base) s.heap H locs → lv_has ls 6 [(0, .ref l0), (4, .int l4), (5, .int l5)] → W p l e ({ frames := 2, cells := 0, slots := 0, locals := 53 } : Room) s m args below meth c H locs 0 0 (MQ below (va_Qi Q (HB G base) (xA base)) args s 0 0 (xA base)) (F0 m 75 ls []) := by
  obtain ⟨hx, hb, hr, hml, hown, hts, hlocks, hK, hbase, hX⟩ := id C0
  intro n
  induction n with
  | zero =>
    intro l0 l4 l5 m0 H locs ls h
    unfold wp_X6_erase_75 at h
    exact h.elim
  | succ n ih =>
    intro l0 l4 l5 m0 H locs ls h hh hS hl
    unfold wp_X6_erase_75 at h
    have hL6 : ∀ w ∈ u_ws RX6 TX6 17, w.before _ s = true := fun w h9 => hts w (List.mem_cons_of_mem _ (List.mem_append_right _ (h9)))
    have q2 : (Cond.fieldLink RX6 46 "RollupStoreModel" "all" "I").before _ s = true := hts _ (List.mem_cons_of_mem _ (List.mem_append_left _ (List.mem_append_left _ (List.mem_of_getElem? (i := 2) rfl))))
    have q3 : (Cond.fieldLink RX6 19 "RollupStoreModel" "who" "[I").before _ s = true := hts _ (List.mem_cons_of_mem _ (List.mem_append_left _ (List.mem_append_left _ (List.mem_of_getElem? (i := 3) rfl))))
    have q4 : (Cond.fieldLink RX6 22 "RollupStoreModel" "time" "[I").before _ s = true := hts _ (List.mem_cons_of_mem _ (List.mem_append_left _ (List.mem_append_left _ (List.mem_of_getElem? (i := 4) rfl))))
    have q5 : (Cond.fieldLink RX6 25 "RollupStoreModel" "value" "[I").before _ s = true := hts _ (List.mem_cons_of_mem _ (List.mem_append_left _ (List.mem_append_left _ (List.mem_of_getElem? (i := 1) rfl))))
    refine lv_iload hx hb dX6_erase_75 (lv_at hl 2 rfl) ?_
    refine lv_aload_n hx hb dX6_erase_77 rfl (lv_at hl 0 rfl) ?_
    obtain ⟨g24, h⟩ := h
    refine xr_getI (ci := 6) (C := RX6) (T := TX6) (N := 17) hx hb hL6 hown hK hh g24 (by decide) rfl 2 122 rfl rfl (by decide) (by decide) q2 (fun _ h9 => h9) dX6_erase_78 ?_
    refine lv_icmp_ge (tgt := 138) hx hb dX6_erase_81 (by decide) (fun c25 => ?_) (fun c25 => ?_)
    · replace h := h.1 c25
      refine lv_iload hx hb dX6_erase_138 (lv_at hl 1 rfl) ?_
      exact (xe_i hx hb hr hlocks hbase hh hK hX hS h (Nat.le_of_ble_eq_true rfl) (Nat.le_of_ble_eq_true rfl) dX6_erase_140)
    · replace h := h.2 c25
      refine lv_aload_n hx hb dX6_erase_84 rfl (lv_at hl 0 rfl) ?_
      obtain ⟨g26, h⟩ := h
      obtain ⟨b27, eb27, h⟩ := h
      refine xr_getR (ci := 6) (C := RX6) (T := TX6) (N := 17) hx hb hL6 hown hK hh g26 (by decide) rfl 6 126 rfl rfl (by decide) (by decide) q3 (fun _ h9 => h9) eb27 dX6_erase_85 ?_
      refine lv_iload hx hb dX6_erase_88 (lv_at hl 2 rfl) ?_
      refine lv_aload_n hx hb dX6_erase_90 rfl (lv_at hl 0 rfl) ?_
      obtain ⟨g28, h⟩ := h
      obtain ⟨b29, eb29, h⟩ := h
      refine xr_getR (ci := 6) (C := RX6) (T := TX6) (N := 17) hx hb hL6 hown hK hh g28 (by decide) rfl 6 126 rfl rfl (by decide) (by decide) q3 (fun _ h9 => h9) eb29 dX6_erase_91 ?_
      refine lv_iload hx hb dX6_erase_94 (lv_at hl 2 rfl) ?_
      refine lv_iconst (v := 1) hx hb dX6_erase_96 (by decide) ?_
      refine lv_iadd hx hb dX6_erase_97 ?_
      obtain ⟨g30, h⟩ := h
      obtain ⟨g31, h⟩ := h
      refine xr_iald hx hb hK hh g30 g31 dX6_erase_98 ?_
      obtain ⟨g32, h⟩ := h
      obtain ⟨g33, h⟩ := h
      refine xr_iast hx hb hK hh g32 hS g33 dX6_erase_99 (fun H locs hh hS => ?_)
      obtain ⟨m34, em34⟩ : ∃ z : MM, z = sAI m0 b27 (va_up (mAI m0 b27) l5.toNatClampNeg (mAI m0 b29 (l5 + (1 : Int32)).toNatClampNeg)) := ⟨_, rfl⟩
      rw [← em34] at hh
      replace h := h m34 em34
      refine lv_aload_n hx hb dX6_erase_100 rfl (lv_at hl 0 rfl) ?_
      obtain ⟨g35, h⟩ := h
      obtain ⟨b36, eb36, h⟩ := h
      refine xr_getR (ci := 6) (C := RX6) (T := TX6) (N := 17) hx hb hL6 hown hK hh g35 (by decide) rfl 7 127 rfl rfl (by decide) (by decide) q4 (fun _ h9 => h9) eb36 dX6_erase_101 ?_
      refine lv_iload hx hb dX6_erase_104 (lv_at hl 2 rfl) ?_
      refine lv_aload_n hx hb dX6_erase_106 rfl (lv_at hl 0 rfl) ?_
      obtain ⟨g37, h⟩ := h
      obtain ⟨b38, eb38, h⟩ := h
      refine xr_getR (ci := 6) (C := RX6) (T := TX6) (N := 17) hx hb hL6 hown hK hh g37 (by decide) rfl 7 127 rfl rfl (by decide) (by decide) q4 (fun _ h9 => h9) eb38 dX6_erase_107 ?_
      refine lv_iload hx hb dX6_erase_110 (lv_at hl 2 rfl) ?_
      refine lv_iconst (v := 1) hx hb dX6_erase_112 (by decide) ?_
      refine lv_iadd hx hb dX6_erase_113 ?_
      obtain ⟨g39, h⟩ := h
      obtain ⟨g40, h⟩ := h
      refine xr_iald hx hb hK hh g39 g40 dX6_erase_114 ?_
      obtain ⟨g41, h⟩ := h
      obtain ⟨g42, h⟩ := h
      refine xr_iast hx hb hK hh g41 hS g42 dX6_erase_115 (fun H locs hh hS => ?_)
      obtain ⟨m43, em43⟩ : ∃ z : MM, z = sAI m34 b36 (va_up (mAI m34 b36) l5.toNatClampNeg (mAI m34 b38 (l5 + (1 : Int32)).toNatClampNeg)) := ⟨_, rfl⟩
      rw [← em43] at hh
      replace h := h m43 em43
      refine lv_aload_n hx hb dX6_erase_116 rfl (lv_at hl 0 rfl) ?_
      obtain ⟨g44, h⟩ := h
      obtain ⟨b45, eb45, h⟩ := h
      refine xr_getR (ci := 6) (C := RX6) (T := TX6) (N := 17) hx hb hL6 hown hK hh g44 (by decide) rfl 8 128 rfl rfl (by decide) (by decide) q5 (fun _ h9 => h9) eb45 dX6_erase_117 ?_
      refine lv_iload hx hb dX6_erase_120 (lv_at hl 2 rfl) ?_
      refine lv_aload_n hx hb dX6_erase_122 rfl (lv_at hl 0 rfl) ?_
      obtain ⟨g46, h⟩ := h
      obtain ⟨b47, eb47, h⟩ := h
      refine xr_getR (ci := 6) (C := RX6) (T := TX6) (N := 17) hx hb hL6 hown hK hh g46 (by decide) rfl 8 128 rfl rfl (by decide) (by decide) q5 (fun _ h9 => h9) eb47 dX6_erase_123 ?_
      refine lv_iload hx hb dX6_erase_126 (lv_at hl 2 rfl) ?_
      refine lv_iconst (v := 1) hx hb dX6_erase_128 (by decide) ?_
      refine lv_iadd hx hb dX6_erase_129 ?_
      obtain ⟨g48, h⟩ := h
      obtain ⟨g49, h⟩ := h
      refine xr_iald hx hb hK hh g48 g49 dX6_erase_130 ?_
      obtain ⟨g50, h⟩ := h
      obtain ⟨g51, h⟩ := h
      refine xr_iast hx hb hK hh g50 hS g51 dX6_erase_131 (fun H locs hh hS => ?_)
      obtain ⟨m52, em52⟩ : ∃ z : MM, z = sAI m43 b45 (va_up (mAI m43 b45) l5.toNatClampNeg (mAI m43 b47 (l5 + (1 : Int32)).toNatClampNeg)) := ⟨_, rfl⟩
      rw [← em52] at hh
      replace h := h m52 em52
      obtain ⟨x53, ex53⟩ : ∃ y : Int32, y = l5 + 1 := ⟨_, rfl⟩
      replace h := h x53 ex53
      refine lv_iinc (v := x53) (lv' := [(5, .int x53), (0, .ref l0), (4, .int l4)]) hx hb dX6_erase_132 hl (k := 2) rfl (by rw [ex53]; rfl) (by decide) rfl (fun ls hl => ?_)
      refine lv_goto (tgt := 75) hx hb dX6_erase_135 (by decide) ?_
      exact ih _ _ _ _ _ _ _ h hh hS (lv_sub hl [1, 2, 0] rfl)

set_option maxHeartbeats 4000000 in
set_option maxRecDepth 100000 in
theorem mt_X6_erase (l : Launch) (G : GG) (base : Nat) {a0 : Nat} {p1 : Int32} {p2 : Int32} {m0 : MM} {Q : Int32 → MM → Prop} (h : wp_X6_erase a0 p1 p2 m0 Q) : Met l yX6_erase wsX6_erase ({ frames := 2, cells := 0, slots := 0, locals := 53 }) (va_Pc [.ref a0, .int p1, .int p2] (SP G base m0)) (va_Qi Q (HB G base) (xA base)) 0 0 (xA base) := by
  refine Met.ofW (cc := cX6_erase) (maxL := 6) (ret := (some .int)) (by decide) rfl ?_
  intro p e s m args below meth c s₁ B hml hv
  obtain ⟨rfl, hbase, hh, hK, hX⟩ := hv
  have C0 : BC p s m _ meth c G base RX6 cX6_erase 6 (some .int) wsX6_erase := ⟨B.exec, B.bytes, B.returns, hml, findClass_of_methodNamed B.named, atoms_spec (ws := wsX6_erase) B.pre, B.notSynchronized, hK, hbase, hX⟩
  obtain ⟨hx, hb, hr, -, hown, hts, hlocks, -, -, -⟩ := id C0
  have hS : va_S (xA base) s.heap s.heap [] := va_S.rf
  have hl := lv_entry ([.ref a0, .int p1, .int p2]) (n := 6) (Nat.le_of_ble_eq_true rfl)
  rw [lg_entry_eq]
  generalize (lg_sl ([.ref a0, .int p1, .int p2]) ++ List.replicate (6 - (lg_sl ([.ref a0, .int p1, .int p2])).length) Slot.unset).toArray = ls at hl ⊢
  have hl : lv_has ls 6 [(0, .ref a0), (1, .int p1), (2, .int p2)] := hl
  unfold wp_X6_erase at h
  have hL6 : ∀ w ∈ u_ws RX6 TX6 17, w.before _ s = true := fun w h9 => hts w (List.mem_cons_of_mem _ (List.mem_append_right _ (h9)))
  have q2 : (Cond.fieldLink RX6 25 "RollupStoreModel" "value" "[I").before _ s = true := hts _ (List.mem_cons_of_mem _ (List.mem_append_left _ (List.mem_append_left _ (List.mem_of_getElem? (i := 1) rfl))))
  have q3 : (Cond.fieldLink RX6 46 "RollupStoreModel" "all" "I").before _ s = true := hts _ (List.mem_cons_of_mem _ (List.mem_append_left _ (List.mem_append_left _ (List.mem_of_getElem? (i := 2) rfl))))
  have q4 : (Cond.fieldLink RX6 62 "RollupStoreModel" "clock" "I").before _ s = true := hts _ (List.mem_cons_of_mem _ (List.mem_append_left _ (List.mem_append_left _ (List.mem_of_getElem? (i := 0) rfl))))
  refine lv_aload_n hx hb dX6_erase_0 rfl (lv_at hl 0 rfl) ?_
  refine lv_aload_n hx hb dX6_erase_1 rfl (lv_at hl 0 rfl) ?_
  refine lv_iload_n hx hb dX6_erase_2 rfl (lv_at hl 1 rfl) ?_
  obtain ⟨g1, h⟩ := h
  refine xc_i (va_runV (As := [.int p1]) (rest := [.ref a0]) ⟨hx, hb, hml, hown, hts⟩ (mt_X6_isSeries l G base h) (cwV 1 hts gX6_erase_X6_isSeries rfl rfl rfl (by decide +kernel) ⟨Nat.le_of_ble_eq_true rfl, Nat.le_of_ble_eq_true rfl⟩) (xp_V hbase hh hK hX hS (ci := 6) g1 (by decide) rfl) rfl rfl hl.1 rfl (lv_room (Nat.le_of_ble_eq_true rfl)) dX6_erase_3 ⟨Nat.le_of_ble_eq_true rfl, Nat.le_of_ble_eq_true rfl⟩) hS (fun r2 m3 H locs h hh hS => ?_)
  refine lv_if_ne (tgt := 13) hx hb dX6_erase_6 (by decide) (fun c4 => ?_) (fun c4 => ?_)
  · replace h := h.1 c4
    refine lv_aload_n hx hb dX6_erase_13 rfl (lv_at hl 0 rfl) ?_
    refine lv_iload_n hx hb dX6_erase_14 rfl (lv_at hl 1 rfl) ?_
    refine lv_iload_n hx hb dX6_erase_15 rfl (lv_at hl 2 rfl) ?_
    obtain ⟨g5, h⟩ := h
    refine xc_i (va_runV (As := [.int p1, .int p2]) (rest := [.ref a0]) ⟨hx, hb, hml, hown, hts⟩ (mt_X6_isKept l G base h) (cwV 2 hts gX6_erase_X6_isKept rfl rfl rfl (by decide +kernel) ⟨Nat.le_of_ble_eq_true rfl, Nat.le_of_ble_eq_true rfl⟩) (xp_V hbase hh hK hX hS (ci := 6) g5 (by decide) rfl) rfl rfl hl.1 rfl (lv_room (Nat.le_of_ble_eq_true rfl)) dX6_erase_16 ⟨Nat.le_of_ble_eq_true rfl, Nat.le_of_ble_eq_true rfl⟩) hS (fun r6 m7 H locs h hh hS => ?_)
    refine lv_if_eq (tgt := 34) hx hb dX6_erase_19 (by decide) (fun c8 => ?_) (fun c8 => ?_)
    · replace h := h.1 c8
      refine lv_iconst (v := 2) hx hb dX6_erase_34 (by decide) ?_
      refine lv_goto (tgt := 39) hx hb dX6_erase_35 (by decide) ?_
      obtain ⟨g9, h⟩ := h
      refine xc_i (va_runV (As := [.int (2 : Int32)]) (rest := []) ⟨hx, hb, hml, hown, hts⟩ (mt_X6_can l G base h) (cwV 1 hts gX6_erase_X6_can rfl rfl rfl (by decide +kernel) ⟨Nat.le_of_ble_eq_true rfl, Nat.le_of_ble_eq_true rfl⟩) (xp_V hbase hh hK hX hS (ci := 6) g9 (by decide) rfl) rfl rfl hl.1 rfl (lv_room (Nat.le_of_ble_eq_true rfl)) dX6_erase_39 ⟨Nat.le_of_ble_eq_true rfl, Nat.le_of_ble_eq_true rfl⟩) hS (fun r10 m11 H locs h hh hS => ?_)
      refine lv_if_ne (tgt := 47) hx hb dX6_erase_42 (by decide) (fun c12 => ?_) (fun c12 => ?_)
      · replace h := h.1 c12
        refine lv_aload_n hx hb dX6_erase_47 rfl (lv_at hl 0 rfl) ?_
        refine lv_iload_n hx hb dX6_erase_48 rfl (lv_at hl 1 rfl) ?_
        refine lv_iload_n hx hb dX6_erase_49 rfl (lv_at hl 2 rfl) ?_
        obtain ⟨g13, h⟩ := h
        refine xc_i (va_runV (As := [.int p1, .int p2]) (rest := []) ⟨hx, hb, hml, hown, hts⟩ (mt_X6_place l G base h) (cwV 2 hts gX6_erase_X6_place rfl rfl rfl (by decide +kernel) ⟨Nat.le_of_ble_eq_true rfl, Nat.le_of_ble_eq_true rfl⟩) (xp_V hbase hh hK hX hS (ci := 6) g13 (by decide) rfl) rfl rfl hl.1 rfl (lv_room (Nat.le_of_ble_eq_true rfl)) dX6_erase_50 ⟨Nat.le_of_ble_eq_true rfl, Nat.le_of_ble_eq_true rfl⟩) hS (fun r14 m15 H locs h hh hS => ?_)
        refine lv_istore_n (lv' := [(3, .int r14), (0, .ref a0), (1, .int p1), (2, .int p2)]) hx hb dX6_erase_53 rfl hl (by decide) rfl (fun ls hl => ?_)
        refine lv_aload_n hx hb dX6_erase_54 rfl (lv_at hl 1 rfl) ?_
        obtain ⟨g16, h⟩ := h
        obtain ⟨b17, eb17, h⟩ := h
        refine xr_getR (ci := 6) (C := RX6) (T := TX6) (N := 17) hx hb hL6 hown hK hh g16 (by decide) rfl 8 128 rfl rfl (by decide) (by decide) q2 (fun _ h9 => h9) eb17 dX6_erase_55 ?_
        refine lv_iload_n hx hb dX6_erase_58 rfl (lv_at hl 0 rfl) ?_
        obtain ⟨g18, h⟩ := h
        obtain ⟨g19, h⟩ := h
        refine xr_iald hx hb hK hh g18 g19 dX6_erase_59 ?_
        refine lv_topi (fun x20 ex20 => ?_)
        replace h := h x20 ex20
        refine lv_istore (lv' := [(4, .int x20), (3, .int r14), (0, .ref a0), (1, .int p1), (2, .int p2)]) hx hb dX6_erase_60 hl (by decide) rfl (fun ls hl => ?_)
        refine lv_aload_n hx hb dX6_erase_62 rfl (lv_at hl 2 rfl) ?_
        refine lv_dup hx hb dX6_erase_63 rfl ?_
        obtain ⟨g21, h⟩ := h
        refine xr_getI (ci := 6) (C := RX6) (T := TX6) (N := 17) hx hb hL6 hown hK hh g21 (by decide) rfl 2 122 rfl rfl (by decide) (by decide) q3 (fun _ h9 => h9) dX6_erase_64 ?_
        refine lv_iconst (v := 1) hx hb dX6_erase_67 (by decide) ?_
        refine lv_isub hx hb dX6_erase_68 ?_
        obtain ⟨g22, h⟩ := h
        refine xr_putI (ci := 6) (C := RX6) (T := TX6) (N := 17) hx hb hL6 hown hK hh g22 (by decide) rfl 2 122 rfl rfl (by decide) (by decide) q3 (fun _ h9 => h9) tyX6 tyX6_ok nmX6 rfl rfl rfl hS dX6_erase_69 (fun H locs hh hS => ?_)
        obtain ⟨m23, em23⟩ : ∃ z : MM, z = sI m15 122 a0 ((mI m15 122 a0) - (1 : Int32)) := ⟨_, rfl⟩
        rw [← em23] at hh
        replace h := h m23 em23
        refine lv_iload_n hx hb dX6_erase_72 rfl (lv_at hl 1 rfl) ?_
        refine lv_istore (lv' := [(5, .int r14), (4, .int x20), (3, .int r14), (0, .ref a0), (1, .int p1), (2, .int p2)]) hx hb dX6_erase_73 hl (by decide) rfl (fun ls hl => ?_)
        obtain ⟨n9, h⟩ := h
        exact bk_X6_erase_75 C0  n9 _ _ _ _ _ _ _ h hh hS (lv_sub hl [3, 1, 0] rfl)
      · replace h := h.2 c12
        refine lv_iconst (v := 0) hx hb dX6_erase_45 (by decide) ?_
        exact (xe_i hx hb hr hlocks hbase hh hK hX hS h (Nat.le_of_ble_eq_true rfl) (Nat.le_of_ble_eq_true rfl) dX6_erase_46)
    · replace h := h.2 c8
      refine lv_iload_n hx hb dX6_erase_22 rfl (lv_at hl 2 rfl) ?_
      refine lv_aload_n hx hb dX6_erase_23 rfl (lv_at hl 0 rfl) ?_
      obtain ⟨g54, h⟩ := h
      refine xr_getI (ci := 6) (C := RX6) (T := TX6) (N := 17) hx hb hL6 hown hK hh g54 (by decide) rfl 0 120 rfl rfl (by decide) (by decide) q4 (fun _ h9 => h9) dX6_erase_24 ?_
      refine lv_sipush (v := 3600) hx hb dX6_erase_27 (by decide) ?_
      refine lv_isub hx hb dX6_erase_30 ?_
      refine lv_icmp_ge (tgt := 38) hx hb dX6_erase_31 (by decide) (fun c55 => ?_) (fun c55 => ?_)
      · replace h := h.1 c55
        refine lv_iconst (v := 0) hx hb dX6_erase_38 (by decide) ?_
        obtain ⟨g56, h⟩ := h
        refine xc_i (va_runV (As := [.int (0 : Int32)]) (rest := []) ⟨hx, hb, hml, hown, hts⟩ (mt_X6_can l G base h) (cwV 1 hts gX6_erase_X6_can rfl rfl rfl (by decide +kernel) ⟨Nat.le_of_ble_eq_true rfl, Nat.le_of_ble_eq_true rfl⟩) (xp_V hbase hh hK hX hS (ci := 6) g56 (by decide) rfl) rfl rfl hl.1 rfl (lv_room (Nat.le_of_ble_eq_true rfl)) dX6_erase_39 ⟨Nat.le_of_ble_eq_true rfl, Nat.le_of_ble_eq_true rfl⟩) hS (fun r57 m58 H locs h hh hS => ?_)
        refine lv_if_ne (tgt := 47) hx hb dX6_erase_42 (by decide) (fun c59 => ?_) (fun c59 => ?_)
        · replace h := h.1 c59
          refine lv_aload_n hx hb dX6_erase_47 rfl (lv_at hl 0 rfl) ?_
          refine lv_iload_n hx hb dX6_erase_48 rfl (lv_at hl 1 rfl) ?_
          refine lv_iload_n hx hb dX6_erase_49 rfl (lv_at hl 2 rfl) ?_
          obtain ⟨g60, h⟩ := h
          refine xc_i (va_runV (As := [.int p1, .int p2]) (rest := []) ⟨hx, hb, hml, hown, hts⟩ (mt_X6_place l G base h) (cwV 2 hts gX6_erase_X6_place rfl rfl rfl (by decide +kernel) ⟨Nat.le_of_ble_eq_true rfl, Nat.le_of_ble_eq_true rfl⟩) (xp_V hbase hh hK hX hS (ci := 6) g60 (by decide) rfl) rfl rfl hl.1 rfl (lv_room (Nat.le_of_ble_eq_true rfl)) dX6_erase_50 ⟨Nat.le_of_ble_eq_true rfl, Nat.le_of_ble_eq_true rfl⟩) hS (fun r61 m62 H locs h hh hS => ?_)
          refine lv_istore_n (lv' := [(3, .int r61), (0, .ref a0), (1, .int p1), (2, .int p2)]) hx hb dX6_erase_53 rfl hl (by decide) rfl (fun ls hl => ?_)
          refine lv_aload_n hx hb dX6_erase_54 rfl (lv_at hl 1 rfl) ?_
          obtain ⟨g63, h⟩ := h
          obtain ⟨b64, eb64, h⟩ := h
          refine xr_getR (ci := 6) (C := RX6) (T := TX6) (N := 17) hx hb hL6 hown hK hh g63 (by decide) rfl 8 128 rfl rfl (by decide) (by decide) q2 (fun _ h9 => h9) eb64 dX6_erase_55 ?_
          refine lv_iload_n hx hb dX6_erase_58 rfl (lv_at hl 0 rfl) ?_
          obtain ⟨g65, h⟩ := h
          obtain ⟨g66, h⟩ := h
          refine xr_iald hx hb hK hh g65 g66 dX6_erase_59 ?_
          refine lv_topi (fun x67 ex67 => ?_)
          replace h := h x67 ex67
          refine lv_istore (lv' := [(4, .int x67), (3, .int r61), (0, .ref a0), (1, .int p1), (2, .int p2)]) hx hb dX6_erase_60 hl (by decide) rfl (fun ls hl => ?_)
          refine lv_aload_n hx hb dX6_erase_62 rfl (lv_at hl 2 rfl) ?_
          refine lv_dup hx hb dX6_erase_63 rfl ?_
          obtain ⟨g68, h⟩ := h
          refine xr_getI (ci := 6) (C := RX6) (T := TX6) (N := 17) hx hb hL6 hown hK hh g68 (by decide) rfl 2 122 rfl rfl (by decide) (by decide) q3 (fun _ h9 => h9) dX6_erase_64 ?_
          refine lv_iconst (v := 1) hx hb dX6_erase_67 (by decide) ?_
          refine lv_isub hx hb dX6_erase_68 ?_
          obtain ⟨g69, h⟩ := h
          refine xr_putI (ci := 6) (C := RX6) (T := TX6) (N := 17) hx hb hL6 hown hK hh g69 (by decide) rfl 2 122 rfl rfl (by decide) (by decide) q3 (fun _ h9 => h9) tyX6 tyX6_ok nmX6 rfl rfl rfl hS dX6_erase_69 (fun H locs hh hS => ?_)
          obtain ⟨m70, em70⟩ : ∃ z : MM, z = sI m62 122 a0 ((mI m62 122 a0) - (1 : Int32)) := ⟨_, rfl⟩
          rw [← em70] at hh
          replace h := h m70 em70
          refine lv_iload_n hx hb dX6_erase_72 rfl (lv_at hl 1 rfl) ?_
          refine lv_istore (lv' := [(5, .int r61), (4, .int x67), (3, .int r61), (0, .ref a0), (1, .int p1), (2, .int p2)]) hx hb dX6_erase_73 hl (by decide) rfl (fun ls hl => ?_)
          obtain ⟨n9, h⟩ := h
          exact bk_X6_erase_75 C0  n9 _ _ _ _ _ _ _ h hh hS (lv_sub hl [3, 1, 0] rfl)
        · replace h := h.2 c59
          refine lv_iconst (v := 0) hx hb dX6_erase_45 (by decide) ?_
          exact (xe_i hx hb hr hlocks hbase hh hK hX hS h (Nat.le_of_ble_eq_true rfl) (Nat.le_of_ble_eq_true rfl) dX6_erase_46)
      · replace h := h.2 c55
        refine lv_iconst (v := 2) hx hb dX6_erase_34 (by decide) ?_
        refine lv_goto (tgt := 39) hx hb dX6_erase_35 (by decide) ?_
        obtain ⟨g71, h⟩ := h
        refine xc_i (va_runV (As := [.int (2 : Int32)]) (rest := []) ⟨hx, hb, hml, hown, hts⟩ (mt_X6_can l G base h) (cwV 1 hts gX6_erase_X6_can rfl rfl rfl (by decide +kernel) ⟨Nat.le_of_ble_eq_true rfl, Nat.le_of_ble_eq_true rfl⟩) (xp_V hbase hh hK hX hS (ci := 6) g71 (by decide) rfl) rfl rfl hl.1 rfl (lv_room (Nat.le_of_ble_eq_true rfl)) dX6_erase_39 ⟨Nat.le_of_ble_eq_true rfl, Nat.le_of_ble_eq_true rfl⟩) hS (fun r72 m73 H locs h hh hS => ?_)
        refine lv_if_ne (tgt := 47) hx hb dX6_erase_42 (by decide) (fun c74 => ?_) (fun c74 => ?_)
        · replace h := h.1 c74
          refine lv_aload_n hx hb dX6_erase_47 rfl (lv_at hl 0 rfl) ?_
          refine lv_iload_n hx hb dX6_erase_48 rfl (lv_at hl 1 rfl) ?_
          refine lv_iload_n hx hb dX6_erase_49 rfl (lv_at hl 2 rfl) ?_
          obtain ⟨g75, h⟩ := h
          refine xc_i (va_runV (As := [.int p1, .int p2]) (rest := []) ⟨hx, hb, hml, hown, hts⟩ (mt_X6_place l G base h) (cwV 2 hts gX6_erase_X6_place rfl rfl rfl (by decide +kernel) ⟨Nat.le_of_ble_eq_true rfl, Nat.le_of_ble_eq_true rfl⟩) (xp_V hbase hh hK hX hS (ci := 6) g75 (by decide) rfl) rfl rfl hl.1 rfl (lv_room (Nat.le_of_ble_eq_true rfl)) dX6_erase_50 ⟨Nat.le_of_ble_eq_true rfl, Nat.le_of_ble_eq_true rfl⟩) hS (fun r76 m77 H locs h hh hS => ?_)
          refine lv_istore_n (lv' := [(3, .int r76), (0, .ref a0), (1, .int p1), (2, .int p2)]) hx hb dX6_erase_53 rfl hl (by decide) rfl (fun ls hl => ?_)
          refine lv_aload_n hx hb dX6_erase_54 rfl (lv_at hl 1 rfl) ?_
          obtain ⟨g78, h⟩ := h
          obtain ⟨b79, eb79, h⟩ := h
          refine xr_getR (ci := 6) (C := RX6) (T := TX6) (N := 17) hx hb hL6 hown hK hh g78 (by decide) rfl 8 128 rfl rfl (by decide) (by decide) q2 (fun _ h9 => h9) eb79 dX6_erase_55 ?_
          refine lv_iload_n hx hb dX6_erase_58 rfl (lv_at hl 0 rfl) ?_
          obtain ⟨g80, h⟩ := h
          obtain ⟨g81, h⟩ := h
          refine xr_iald hx hb hK hh g80 g81 dX6_erase_59 ?_
          refine lv_topi (fun x82 ex82 => ?_)
          replace h := h x82 ex82
          refine lv_istore (lv' := [(4, .int x82), (3, .int r76), (0, .ref a0), (1, .int p1), (2, .int p2)]) hx hb dX6_erase_60 hl (by decide) rfl (fun ls hl => ?_)
          refine lv_aload_n hx hb dX6_erase_62 rfl (lv_at hl 2 rfl) ?_
          refine lv_dup hx hb dX6_erase_63 rfl ?_
          obtain ⟨g83, h⟩ := h
          refine xr_getI (ci := 6) (C := RX6) (T := TX6) (N := 17) hx hb hL6 hown hK hh g83 (by decide) rfl 2 122 rfl rfl (by decide) (by decide) q3 (fun _ h9 => h9) dX6_erase_64 ?_
          refine lv_iconst (v := 1) hx hb dX6_erase_67 (by decide) ?_
          refine lv_isub hx hb dX6_erase_68 ?_
          obtain ⟨g84, h⟩ := h
          refine xr_putI (ci := 6) (C := RX6) (T := TX6) (N := 17) hx hb hL6 hown hK hh g84 (by decide) rfl 2 122 rfl rfl (by decide) (by decide) q3 (fun _ h9 => h9) tyX6 tyX6_ok nmX6 rfl rfl rfl hS dX6_erase_69 (fun H locs hh hS => ?_)
          obtain ⟨m85, em85⟩ : ∃ z : MM, z = sI m77 122 a0 ((mI m77 122 a0) - (1 : Int32)) := ⟨_, rfl⟩
          rw [← em85] at hh
          replace h := h m85 em85
          refine lv_iload_n hx hb dX6_erase_72 rfl (lv_at hl 1 rfl) ?_
          refine lv_istore (lv' := [(5, .int r76), (4, .int x82), (3, .int r76), (0, .ref a0), (1, .int p1), (2, .int p2)]) hx hb dX6_erase_73 hl (by decide) rfl (fun ls hl => ?_)
          obtain ⟨n9, h⟩ := h
          exact bk_X6_erase_75 C0  n9 _ _ _ _ _ _ _ h hh hS (lv_sub hl [3, 1, 0] rfl)
        · replace h := h.2 c74
          refine lv_iconst (v := 0) hx hb dX6_erase_45 (by decide) ?_
          exact (xe_i hx hb hr hlocks hbase hh hK hX hS h (Nat.le_of_ble_eq_true rfl) (Nat.le_of_ble_eq_true rfl) dX6_erase_46)
  · replace h := h.2 c4
    refine lv_iconst (v := 1) hx hb dX6_erase_9 (by decide) ?_
    refine lv_goto (tgt := 39) hx hb dX6_erase_10 (by decide) ?_
    obtain ⟨g86, h⟩ := h
    refine xc_i (va_runV (As := [.int (1 : Int32)]) (rest := []) ⟨hx, hb, hml, hown, hts⟩ (mt_X6_can l G base h) (cwV 1 hts gX6_erase_X6_can rfl rfl rfl (by decide +kernel) ⟨Nat.le_of_ble_eq_true rfl, Nat.le_of_ble_eq_true rfl⟩) (xp_V hbase hh hK hX hS (ci := 6) g86 (by decide) rfl) rfl rfl hl.1 rfl (lv_room (Nat.le_of_ble_eq_true rfl)) dX6_erase_39 ⟨Nat.le_of_ble_eq_true rfl, Nat.le_of_ble_eq_true rfl⟩) hS (fun r87 m88 H locs h hh hS => ?_)
    refine lv_if_ne (tgt := 47) hx hb dX6_erase_42 (by decide) (fun c89 => ?_) (fun c89 => ?_)
    · replace h := h.1 c89
      refine lv_aload_n hx hb dX6_erase_47 rfl (lv_at hl 0 rfl) ?_
      refine lv_iload_n hx hb dX6_erase_48 rfl (lv_at hl 1 rfl) ?_
      refine lv_iload_n hx hb dX6_erase_49 rfl (lv_at hl 2 rfl) ?_
      obtain ⟨g90, h⟩ := h
      refine xc_i (va_runV (As := [.int p1, .int p2]) (rest := []) ⟨hx, hb, hml, hown, hts⟩ (mt_X6_place l G base h) (cwV 2 hts gX6_erase_X6_place rfl rfl rfl (by decide +kernel) ⟨Nat.le_of_ble_eq_true rfl, Nat.le_of_ble_eq_true rfl⟩) (xp_V hbase hh hK hX hS (ci := 6) g90 (by decide) rfl) rfl rfl hl.1 rfl (lv_room (Nat.le_of_ble_eq_true rfl)) dX6_erase_50 ⟨Nat.le_of_ble_eq_true rfl, Nat.le_of_ble_eq_true rfl⟩) hS (fun r91 m92 H locs h hh hS => ?_)
      refine lv_istore_n (lv' := [(3, .int r91), (0, .ref a0), (1, .int p1), (2, .int p2)]) hx hb dX6_erase_53 rfl hl (by decide) rfl (fun ls hl => ?_)
      refine lv_aload_n hx hb dX6_erase_54 rfl (lv_at hl 1 rfl) ?_
      obtain ⟨g93, h⟩ := h
      obtain ⟨b94, eb94, h⟩ := h
      refine xr_getR (ci := 6) (C := RX6) (T := TX6) (N := 17) hx hb hL6 hown hK hh g93 (by decide) rfl 8 128 rfl rfl (by decide) (by decide) q2 (fun _ h9 => h9) eb94 dX6_erase_55 ?_
      refine lv_iload_n hx hb dX6_erase_58 rfl (lv_at hl 0 rfl) ?_
      obtain ⟨g95, h⟩ := h
      obtain ⟨g96, h⟩ := h
      refine xr_iald hx hb hK hh g95 g96 dX6_erase_59 ?_
      refine lv_topi (fun x97 ex97 => ?_)
      replace h := h x97 ex97
      refine lv_istore (lv' := [(4, .int x97), (3, .int r91), (0, .ref a0), (1, .int p1), (2, .int p2)]) hx hb dX6_erase_60 hl (by decide) rfl (fun ls hl => ?_)
      refine lv_aload_n hx hb dX6_erase_62 rfl (lv_at hl 2 rfl) ?_
      refine lv_dup hx hb dX6_erase_63 rfl ?_
      obtain ⟨g98, h⟩ := h
      refine xr_getI (ci := 6) (C := RX6) (T := TX6) (N := 17) hx hb hL6 hown hK hh g98 (by decide) rfl 2 122 rfl rfl (by decide) (by decide) q3 (fun _ h9 => h9) dX6_erase_64 ?_
      refine lv_iconst (v := 1) hx hb dX6_erase_67 (by decide) ?_
      refine lv_isub hx hb dX6_erase_68 ?_
      obtain ⟨g99, h⟩ := h
      refine xr_putI (ci := 6) (C := RX6) (T := TX6) (N := 17) hx hb hL6 hown hK hh g99 (by decide) rfl 2 122 rfl rfl (by decide) (by decide) q3 (fun _ h9 => h9) tyX6 tyX6_ok nmX6 rfl rfl rfl hS dX6_erase_69 (fun H locs hh hS => ?_)
      obtain ⟨m100, em100⟩ : ∃ z : MM, z = sI m92 122 a0 ((mI m92 122 a0) - (1 : Int32)) := ⟨_, rfl⟩
      rw [← em100] at hh
      replace h := h m100 em100
      refine lv_iload_n hx hb dX6_erase_72 rfl (lv_at hl 1 rfl) ?_
      refine lv_istore (lv' := [(5, .int r91), (4, .int x97), (3, .int r91), (0, .ref a0), (1, .int p1), (2, .int p2)]) hx hb dX6_erase_73 hl (by decide) rfl (fun ls hl => ?_)
      obtain ⟨n9, h⟩ := h
      exact bk_X6_erase_75 C0  n9 _ _ _ _ _ _ _ h hh hS (lv_sub hl [3, 1, 0] rfl)
    · replace h := h.2 c89
      refine lv_iconst (v := 0) hx hb dX6_erase_45 (by decide) ?_
      exact (xe_i hx hb hr hlocks hbase hh hK hX hS h (Nat.le_of_ble_eq_true rfl) (Nat.le_of_ble_eq_true rfl) dX6_erase_46)

set_option maxHeartbeats 4000000 in
set_option maxRecDepth 100000 in
theorem mt_X6_length (l : Launch) (G : GG) (base : Nat) {p1 : Int32} {m0 : MM} {Q : Int32 → MM → Prop} (h : wp_X6_length p1 m0 Q) : Met l yX6_length wsX6_length ({ frames := 0, cells := 0, slots := 0, locals := 8 }) (va_Pc [.int p1] (SP G base m0)) (va_Qi Q (HB G base) (xA base)) 0 0 (xA base) := by
  refine Met.ofW (cc := cX6_length) (maxL := 1) (ret := (some .int)) (by decide) rfl ?_
  intro p e s m args below meth c s₁ B hml hv
  obtain ⟨rfl, hbase, hh, hK, hX⟩ := hv
  have C0 : BC p s m _ meth c G base RX6 cX6_length 1 (some .int) wsX6_length := ⟨B.exec, B.bytes, B.returns, hml, findClass_of_methodNamed B.named, atoms_spec (ws := wsX6_length) B.pre, B.notSynchronized, hK, hbase, hX⟩
  obtain ⟨hx, hb, hr, -, hown, hts, hlocks, -, -, -⟩ := id C0
  have hS : va_S (xA base) s.heap s.heap [] := va_S.rf
  have hl := lv_entry ([.int p1]) (n := 1) (Nat.le_of_ble_eq_true rfl)
  rw [lg_entry_eq]
  generalize (lg_sl ([.int p1]) ++ List.replicate (1 - (lg_sl ([.int p1])).length) Slot.unset).toArray = ls at hl ⊢
  have hl : lv_has ls 1 [(0, .int p1)] := hl
  unfold wp_X6_length at h
  have q1 : (Cond.constant RX6 32 (86400)).before _ s = true := hts _ (List.mem_cons_of_mem _ (List.mem_of_getElem? (i := 0) rfl))
  refine lv_iload_n hx hb dX6_length_0 rfl (lv_at hl 0 rfl) ?_
  refine lv_iconst (v := 1) hx hb dX6_length_1 (by decide) ?_
  refine lv_icmp_ne (tgt := 10) hx hb dX6_length_2 (by decide) (fun c1 => ?_) (fun c1 => ?_)
  · replace h := h.1 c1
    refine lv_iload_n hx hb dX6_length_10 rfl (lv_at hl 0 rfl) ?_
    refine lv_iconst (v := 2) hx hb dX6_length_11 (by decide) ?_
    refine lv_icmp_ne (tgt := 21) hx hb dX6_length_12 (by decide) (fun c2 => ?_) (fun c2 => ?_)
    · replace h := h.1 c2
      refine lv_ldc hx hb hown q1 dX6_length_21 ?_
      exact (xe_i hx hb hr hlocks hbase hh hK hX hS h (Nat.le_of_ble_eq_true rfl) (Nat.le_of_ble_eq_true rfl) dX6_length_23)
    · replace h := h.2 c2
      refine lv_sipush (v := 3600) hx hb dX6_length_15 (by decide) ?_
      refine lv_goto (tgt := 23) hx hb dX6_length_18 (by decide) ?_
      exact (xe_i hx hb hr hlocks hbase hh hK hX hS h (Nat.le_of_ble_eq_true rfl) (Nat.le_of_ble_eq_true rfl) dX6_length_23)
  · replace h := h.2 c1
    refine lv_bipush (v := 60) hx hb dX6_length_5 (by decide) ?_
    refine lv_goto (tgt := 23) hx hb dX6_length_7 (by decide) ?_
    exact (xe_i hx hb hr hlocks hbase hh hK hX hS h (Nat.le_of_ble_eq_true rfl) (Nat.le_of_ble_eq_true rfl) dX6_length_23)

set_option maxHeartbeats 4000000 in
set_option maxRecDepth 100000 in
theorem mt_X6_begin (l : Launch) (G : GG) (base : Nat) {p1 : Int32} {p2 : Int32} {m0 : MM} {Q : Int32 → MM → Prop} (h : wp_X6_begin p1 p2 m0 Q) : Met l yX6_begin wsX6_begin ({ frames := 1, cells := 0, slots := 0, locals := 28 }) (va_Pc [.int p1, .int p2] (SP G base m0)) (va_Qi Q (HB G base) (xA base)) 0 0 (xA base) := by
  refine Met.ofW (cc := cX6_begin) (maxL := 2) (ret := (some .int)) (by decide) rfl ?_
  intro p e s m args below meth c s₁ B hml hv
  obtain ⟨rfl, hbase, hh, hK, hX⟩ := hv
  have C0 : BC p s m _ meth c G base RX6 cX6_begin 2 (some .int) wsX6_begin := ⟨B.exec, B.bytes, B.returns, hml, findClass_of_methodNamed B.named, atoms_spec (ws := wsX6_begin) B.pre, B.notSynchronized, hK, hbase, hX⟩
  obtain ⟨hx, hb, hr, -, hown, hts, hlocks, -, -, -⟩ := id C0
  have hS : va_S (xA base) s.heap s.heap [] := va_S.rf
  have hl := lv_entry ([.int p1, .int p2]) (n := 2) (Nat.le_of_ble_eq_true rfl)
  rw [lg_entry_eq]
  generalize (lg_sl ([.int p1, .int p2]) ++ List.replicate (2 - (lg_sl ([.int p1, .int p2])).length) Slot.unset).toArray = ls at hl ⊢
  have hl : lv_has ls 2 [(0, .int p1), (1, .int p2)] := hl
  unfold wp_X6_begin at h
  refine lv_iload_n hx hb dX6_begin_0 rfl (lv_at hl 1 rfl) ?_
  refine lv_iload_n hx hb dX6_begin_1 rfl (lv_at hl 0 rfl) ?_
  refine xc_i (va_runS (As := [.int p1]) (rest := [.int p2]) ⟨hx, hb, hml, hown, hts⟩ (mt_X6_length l G base h) (va_cwS 1 hts gX6_begin_X6_length rfl rfl rfl (by decide +kernel) ⟨Nat.le_of_ble_eq_true rfl, Nat.le_of_ble_eq_true rfl⟩) (xp_S hbase hh hK hX hS) rfl rfl hl.1 rfl (lv_room (Nat.le_of_ble_eq_true rfl)) dX6_begin_2 ⟨Nat.le_of_ble_eq_true rfl, Nat.le_of_ble_eq_true rfl⟩) hS (fun r1 m2 H locs h hh hS => ?_)
  obtain ⟨g3, h⟩ := h
  refine lv_idiv hx hb dX6_begin_5 g3 ?_
  refine lv_iload_n hx hb dX6_begin_6 rfl (lv_at hl 0 rfl) ?_
  refine xc_i (va_runS (As := [.int p1]) (rest := [.int (p2 / r1)]) ⟨hx, hb, hml, hown, hts⟩ (mt_X6_length l G base h) (va_cwS 1 hts gX6_begin_X6_length rfl rfl rfl (by decide +kernel) ⟨Nat.le_of_ble_eq_true rfl, Nat.le_of_ble_eq_true rfl⟩) (xp_S hbase hh hK hX hS) rfl rfl hl.1 rfl (lv_room (Nat.le_of_ble_eq_true rfl)) dX6_begin_7 ⟨Nat.le_of_ble_eq_true rfl, Nat.le_of_ble_eq_true rfl⟩) hS (fun r4 m5 H locs h hh hS => ?_)
  refine lv_imul hx hb dX6_begin_10 ?_
  exact (xe_i hx hb hr hlocks hbase hh hK hX hS h (Nat.le_of_ble_eq_true rfl) (Nat.le_of_ble_eq_true rfl) dX6_begin_11)

set_option maxHeartbeats 4000000 in
set_option maxRecDepth 100000 in
theorem mt_X6_isGone (l : Launch) (G : GG) (base : Nat) {a0 : Nat} {p1 : Int32} {p2 : Int64} {m0 : MM} {Q : Int32 → MM → Prop} (h : wp_X6_isGone a0 p1 p2 m0 Q) : Met l yX6_isGone wsX6_isGone ({ frames := 1, cells := 0, slots := 0, locals := 28 }) (va_Pc [.ref a0, .int p1, .long p2] (SP G base m0)) (va_Qi Q (HB G base) (xA base)) 0 0 (xA base) := by
  refine Met.ofW (cc := cX6_isGone) (maxL := 4) (ret := (some .boolean)) (by decide) rfl ?_
  intro p e s m args below meth c s₁ B hml hv
  obtain ⟨rfl, hbase, hh, hK, hX⟩ := hv
  have C0 : BC p s m _ meth c G base RX6 cX6_isGone 4 (some .boolean) wsX6_isGone := ⟨B.exec, B.bytes, B.returns, hml, findClass_of_methodNamed B.named, atoms_spec (ws := wsX6_isGone) B.pre, B.notSynchronized, hK, hbase, hX⟩
  obtain ⟨hx, hb, hr, -, hown, hts, hlocks, -, -, -⟩ := id C0
  have hS : va_S (xA base) s.heap s.heap [] := va_S.rf
  have hl := lv_entry ([.ref a0, .int p1, .long p2]) (n := 4) (Nat.le_of_ble_eq_true rfl)
  rw [lg_entry_eq]
  generalize (lg_sl ([.ref a0, .int p1, .long p2]) ++ List.replicate (4 - (lg_sl ([.ref a0, .int p1, .long p2])).length) Slot.unset).toArray = ls at hl ⊢
  have hl : lv_has ls 4 [(0, .ref a0), (1, .int p1), (2, .long p2)] := hl
  unfold wp_X6_isGone at h
  have hL6 : ∀ w ∈ u_ws RX6 TX6 17, w.before _ s = true := fun w h9 => hts w (List.mem_cons_of_mem _ (List.mem_append_right _ (h9)))
  have q2 : (Cond.fieldLink RX6 16 "RollupStoreModel" "horizon" "[I").before _ s = true := hts _ (List.mem_cons_of_mem _ (List.mem_append_left _ (List.mem_of_getElem? (i := 0) rfl)))
  refine lv_lload_n hx hb dX6_isGone_0 rfl (lv_at hl 2 rfl) ?_
  refine lv_iload_n hx hb dX6_isGone_1 rfl (lv_at hl 1 rfl) ?_
  refine xc_i (va_runS (As := [.int p1]) (rest := [.long p2]) ⟨hx, hb, hml, hown, hts⟩ (mt_X6_length l G base h) (va_cwS 1 hts gX6_isGone_X6_length rfl rfl rfl (by decide +kernel) ⟨Nat.le_of_ble_eq_true rfl, Nat.le_of_ble_eq_true rfl⟩) (xp_S hbase hh hK hX hS) rfl rfl hl.1 rfl (lv_room (Nat.le_of_ble_eq_true rfl)) dX6_isGone_2 ⟨Nat.le_of_ble_eq_true rfl, Nat.le_of_ble_eq_true rfl⟩) hS (fun r1 m2 H locs h hh hS => ?_)
  refine lv_i2l hx hb dX6_isGone_5 rfl ?_
  refine lv_ladd hx hb dX6_isGone_6 ?_
  refine lv_aload_n hx hb dX6_isGone_7 rfl (lv_at hl 0 rfl) ?_
  obtain ⟨g3, h⟩ := h
  obtain ⟨b4, eb4, h⟩ := h
  refine xr_getR (ci := 6) (C := RX6) (T := TX6) (N := 17) hx hb hL6 hown hK hh g3 (by decide) rfl 5 125 rfl rfl (by decide) (by decide) q2 (fun _ h9 => h9) eb4 dX6_isGone_8 ?_
  refine lv_iload_n hx hb dX6_isGone_11 rfl (lv_at hl 1 rfl) ?_
  obtain ⟨g5, h⟩ := h
  obtain ⟨g6, h⟩ := h
  refine xr_iald hx hb hK hh g5 g6 dX6_isGone_12 ?_
  refine lv_i2l hx hb dX6_isGone_13 rfl ?_
  refine W.lcmp hx hb dX6_isGone_14 ?_
  refine lv_if_gt (tgt := 22) hx hb dX6_isGone_15 (by decide) (fun c7 => ?_) (fun c7 => ?_)
  · replace h := h.1 c7
    refine lv_iconst (v := 0) hx hb dX6_isGone_22 (by decide) ?_
    exact (xe_z hx hb hr hlocks hbase hh hK hX hS (Or.inl rfl) h (Nat.le_of_ble_eq_true rfl) (Nat.le_of_ble_eq_true rfl) dX6_isGone_23)
  · replace h := h.2 c7
    refine lv_iconst (v := 1) hx hb dX6_isGone_18 (by decide) ?_
    refine lv_goto (tgt := 23) hx hb dX6_isGone_19 (by decide) ?_
    exact (xe_z hx hb hr hlocks hbase hh hK hX hS (Or.inr rfl) h (Nat.le_of_ble_eq_true rfl) (Nat.le_of_ble_eq_true rfl) dX6_isGone_23)

set_option maxHeartbeats 4000000 in
set_option maxRecDepth 100000 in
theorem mt_X6_begins (l : Launch) (G : GG) (base : Nat) {a0 : Nat} {p1 : Int32} {p2 : Int32} {m0 : MM} {Q : Int32 → MM → Prop} (h : wp_X6_begins a0 p1 p2 m0 Q) : Met l yX6_begins wsX6_begins ({ frames := 2, cells := 0, slots := 0, locals := 51 }) (va_Pc [.ref a0, .int p1, .int p2] (SP G base m0)) (va_Qi Q (HB G base) (xA base)) 0 0 (xA base) := by
  refine Met.ofW (cc := cX6_begins) (maxL := 4) (ret := (some .boolean)) (by decide) rfl ?_
  intro p e s m args below meth c s₁ B hml hv
  obtain ⟨rfl, hbase, hh, hK, hX⟩ := hv
  have C0 : BC p s m _ meth c G base RX6 cX6_begins 4 (some .boolean) wsX6_begins := ⟨B.exec, B.bytes, B.returns, hml, findClass_of_methodNamed B.named, atoms_spec (ws := wsX6_begins) B.pre, B.notSynchronized, hK, hbase, hX⟩
  obtain ⟨hx, hb, hr, -, hown, hts, hlocks, -, -, -⟩ := id C0
  have hS : va_S (xA base) s.heap s.heap [] := va_S.rf
  have hl := lv_entry ([.ref a0, .int p1, .int p2]) (n := 4) (Nat.le_of_ble_eq_true rfl)
  rw [lg_entry_eq]
  generalize (lg_sl ([.ref a0, .int p1, .int p2]) ++ List.replicate (4 - (lg_sl ([.ref a0, .int p1, .int p2])).length) Slot.unset).toArray = ls at hl ⊢
  have hl : lv_has ls 4 [(0, .ref a0), (1, .int p1), (2, .int p2)] := hl
  unfold wp_X6_begins at h
  have hL6 : ∀ w ∈ u_ws RX6 TX6 17, w.before _ s = true := fun w h9 => hts w (List.mem_cons_of_mem _ (List.mem_append_right _ (h9)))
  have q2 : (Cond.fieldLink RX6 22 "RollupStoreModel" "time" "[I").before _ s = true := hts _ (List.mem_cons_of_mem _ (List.mem_append_left _ (List.mem_of_getElem? (i := 0) rfl)))
  have q3 : (Cond.fieldLink RX6 19 "RollupStoreModel" "who" "[I").before _ s = true := hts _ (List.mem_cons_of_mem _ (List.mem_append_left _ (List.mem_of_getElem? (i := 2) rfl)))
  have q4 : (Cond.fieldLink RX6 16 "RollupStoreModel" "horizon" "[I").before _ s = true := hts _ (List.mem_cons_of_mem _ (List.mem_append_left _ (List.mem_of_getElem? (i := 1) rfl)))
  refine lv_iload_n hx hb dX6_begins_0 rfl (lv_at hl 2 rfl) ?_
  refine lv_if_ne (tgt := 25) hx hb dX6_begins_1 (by decide) (fun c1 => ?_) (fun c1 => ?_)
  · replace h := h.1 c1
    refine lv_iload_n hx hb dX6_begins_25 rfl (lv_at hl 2 rfl) ?_
    refine lv_aload_n hx hb dX6_begins_26 rfl (lv_at hl 0 rfl) ?_
    obtain ⟨g2, h⟩ := h
    obtain ⟨b3, eb3, h⟩ := h
    refine xr_getR (ci := 6) (C := RX6) (T := TX6) (N := 17) hx hb hL6 hown hK hh g2 (by decide) rfl 7 127 rfl rfl (by decide) (by decide) q2 (fun _ h9 => h9) eb3 dX6_begins_27 ?_
    refine lv_iload_n hx hb dX6_begins_30 rfl (lv_at hl 1 rfl) ?_
    obtain ⟨g4, h⟩ := h
    obtain ⟨g5, h⟩ := h
    refine xr_iald hx hb hK hh g4 g5 dX6_begins_31 ?_
    refine xc_i (va_runS (As := [.int p2, .int (mAI m0 b3 p1.toNatClampNeg)]) (rest := []) ⟨hx, hb, hml, hown, hts⟩ (mt_X6_begin l G base h) (va_cwS 2 hts gX6_begins_X6_begin rfl rfl rfl (by decide +kernel) ⟨Nat.le_of_ble_eq_true rfl, Nat.le_of_ble_eq_true rfl⟩) (xp_S hbase hh hK hX hS) rfl rfl hl.1 rfl (lv_room (Nat.le_of_ble_eq_true rfl)) dX6_begins_32 ⟨Nat.le_of_ble_eq_true rfl, Nat.le_of_ble_eq_true rfl⟩) hS (fun r6 m7 H locs h hh hS => ?_)
    refine lv_istore_n (lv' := [(3, .int r6), (0, .ref a0), (1, .int p1), (2, .int p2)]) hx hb dX6_begins_35 rfl hl (by decide) rfl (fun ls hl => ?_)
    refine lv_aload_n hx hb dX6_begins_36 rfl (lv_at hl 1 rfl) ?_
    refine lv_iload_n hx hb dX6_begins_37 rfl (lv_at hl 3 rfl) ?_
    refine lv_iload_n hx hb dX6_begins_38 rfl (lv_at hl 0 rfl) ?_
    refine lv_i2l hx hb dX6_begins_39 rfl ?_
    obtain ⟨g8, h⟩ := h
    refine xc_i (va_runV (As := [.int p2, .long r6.toInt64]) (rest := []) ⟨hx, hb, hml, hown, hts⟩ (mt_X6_isGone l G base h) (cwV 2 hts gX6_begins_X6_isGone rfl rfl rfl (by decide +kernel) ⟨Nat.le_of_ble_eq_true rfl, Nat.le_of_ble_eq_true rfl⟩) (xp_V hbase hh hK hX hS (ci := 6) g8 (by decide) rfl) rfl rfl hl.1 rfl (lv_room (Nat.le_of_ble_eq_true rfl)) dX6_begins_40 ⟨Nat.le_of_ble_eq_true rfl, Nat.le_of_ble_eq_true rfl⟩) hS (fun r9 m10 H locs h hh hS => ?_)
    refine lv_if_ne (tgt := 87) hx hb dX6_begins_43 (by decide) (fun c11 => ?_) (fun c11 => ?_)
    · replace h := h.1 c11
      refine lv_iconst (v := 0) hx hb dX6_begins_87 (by decide) ?_
      exact (xe_z hx hb hr hlocks hbase hh hK hX hS (Or.inl rfl) h (Nat.le_of_ble_eq_true rfl) (Nat.le_of_ble_eq_true rfl) dX6_begins_88)
    · replace h := h.2 c11
      refine lv_iload_n hx hb dX6_begins_46 rfl (lv_at hl 2 rfl) ?_
      refine lv_if_eq (tgt := 83) hx hb dX6_begins_47 (by decide) (fun c12 => ?_) (fun c12 => ?_)
      · replace h := h.1 c12
        refine lv_iconst (v := 1) hx hb dX6_begins_83 (by decide) ?_
        refine lv_goto (tgt := 88) hx hb dX6_begins_84 (by decide) ?_
        exact (xe_z hx hb hr hlocks hbase hh hK hX hS (Or.inr rfl) h (Nat.le_of_ble_eq_true rfl) (Nat.le_of_ble_eq_true rfl) dX6_begins_88)
      · replace h := h.2 c12
        refine lv_aload_n hx hb dX6_begins_50 rfl (lv_at hl 1 rfl) ?_
        obtain ⟨g13, h⟩ := h
        obtain ⟨b14, eb14, h⟩ := h
        refine xr_getR (ci := 6) (C := RX6) (T := TX6) (N := 17) hx hb hL6 hown hK hh g13 (by decide) rfl 6 126 rfl rfl (by decide) (by decide) q3 (fun _ h9 => h9) eb14 dX6_begins_51 ?_
        refine lv_iload_n hx hb dX6_begins_54 rfl (lv_at hl 2 rfl) ?_
        refine lv_iconst (v := 1) hx hb dX6_begins_55 (by decide) ?_
        refine lv_isub hx hb dX6_begins_56 ?_
        obtain ⟨g15, h⟩ := h
        obtain ⟨g16, h⟩ := h
        refine xr_iald hx hb hK hh g15 g16 dX6_begins_57 ?_
        refine lv_aload_n hx hb dX6_begins_58 rfl (lv_at hl 1 rfl) ?_
        obtain ⟨g17, h⟩ := h
        obtain ⟨b18, eb18, h⟩ := h
        refine xr_getR (ci := 6) (C := RX6) (T := TX6) (N := 17) hx hb hL6 hown hK hh g17 (by decide) rfl 6 126 rfl rfl (by decide) (by decide) q3 (fun _ h9 => h9) eb18 dX6_begins_59 ?_
        refine lv_iload_n hx hb dX6_begins_62 rfl (lv_at hl 2 rfl) ?_
        obtain ⟨g19, h⟩ := h
        obtain ⟨g20, h⟩ := h
        refine xr_iald hx hb hK hh g19 g20 dX6_begins_63 ?_
        refine lv_icmp_ne (tgt := 83) hx hb dX6_begins_64 (by decide) (fun c21 => ?_) (fun c21 => ?_)
        · replace h := h.1 c21
          refine lv_iconst (v := 1) hx hb dX6_begins_83 (by decide) ?_
          refine lv_goto (tgt := 88) hx hb dX6_begins_84 (by decide) ?_
          exact (xe_z hx hb hr hlocks hbase hh hK hX hS (Or.inr rfl) h (Nat.le_of_ble_eq_true rfl) (Nat.le_of_ble_eq_true rfl) dX6_begins_88)
        · replace h := h.2 c21
          refine lv_iload_n hx hb dX6_begins_67 rfl (lv_at hl 3 rfl) ?_
          refine lv_aload_n hx hb dX6_begins_68 rfl (lv_at hl 1 rfl) ?_
          obtain ⟨g22, h⟩ := h
          obtain ⟨b23, eb23, h⟩ := h
          refine xr_getR (ci := 6) (C := RX6) (T := TX6) (N := 17) hx hb hL6 hown hK hh g22 (by decide) rfl 7 127 rfl rfl (by decide) (by decide) q2 (fun _ h9 => h9) eb23 dX6_begins_69 ?_
          refine lv_iload_n hx hb dX6_begins_72 rfl (lv_at hl 2 rfl) ?_
          refine lv_iconst (v := 1) hx hb dX6_begins_73 (by decide) ?_
          refine lv_isub hx hb dX6_begins_74 ?_
          obtain ⟨g24, h⟩ := h
          obtain ⟨g25, h⟩ := h
          refine xr_iald hx hb hK hh g24 g25 dX6_begins_75 ?_
          refine xc_i (va_runS (As := [.int p2, .int (mAI m10 b23 (p1 - (1 : Int32)).toNatClampNeg)]) (rest := []) ⟨hx, hb, hml, hown, hts⟩ (mt_X6_begin l G base h) (va_cwS 2 hts gX6_begins_X6_begin rfl rfl rfl (by decide +kernel) ⟨Nat.le_of_ble_eq_true rfl, Nat.le_of_ble_eq_true rfl⟩) (xp_S hbase hh hK hX hS) rfl rfl hl.1 rfl (lv_room (Nat.le_of_ble_eq_true rfl)) dX6_begins_76 ⟨Nat.le_of_ble_eq_true rfl, Nat.le_of_ble_eq_true rfl⟩) hS (fun r26 m27 H locs h hh hS => ?_)
          refine lv_iload_n hx hb dX6_begins_79 rfl (lv_at hl 0 rfl) ?_
          refine lv_icmp_eq (tgt := 87) hx hb dX6_begins_80 (by decide) (fun c28 => ?_) (fun c28 => ?_)
          · replace h := h.1 c28
            refine lv_iconst (v := 0) hx hb dX6_begins_87 (by decide) ?_
            exact (xe_z hx hb hr hlocks hbase hh hK hX hS (Or.inl rfl) h (Nat.le_of_ble_eq_true rfl) (Nat.le_of_ble_eq_true rfl) dX6_begins_88)
          · replace h := h.2 c28
            refine lv_iconst (v := 1) hx hb dX6_begins_83 (by decide) ?_
            refine lv_goto (tgt := 88) hx hb dX6_begins_84 (by decide) ?_
            exact (xe_z hx hb hr hlocks hbase hh hK hX hS (Or.inr rfl) h (Nat.le_of_ble_eq_true rfl) (Nat.le_of_ble_eq_true rfl) dX6_begins_88)
  · replace h := h.2 c1
    refine lv_aload_n hx hb dX6_begins_4 rfl (lv_at hl 0 rfl) ?_
    obtain ⟨g29, h⟩ := h
    obtain ⟨b30, eb30, h⟩ := h
    refine xr_getR (ci := 6) (C := RX6) (T := TX6) (N := 17) hx hb hL6 hown hK hh g29 (by decide) rfl 7 127 rfl rfl (by decide) (by decide) q2 (fun _ h9 => h9) eb30 dX6_begins_5 ?_
    refine lv_iload_n hx hb dX6_begins_8 rfl (lv_at hl 1 rfl) ?_
    obtain ⟨g31, h⟩ := h
    obtain ⟨g32, h⟩ := h
    refine xr_iald hx hb hK hh g31 g32 dX6_begins_9 ?_
    refine lv_aload_n hx hb dX6_begins_10 rfl (lv_at hl 0 rfl) ?_
    obtain ⟨g33, h⟩ := h
    obtain ⟨b34, eb34, h⟩ := h
    refine xr_getR (ci := 6) (C := RX6) (T := TX6) (N := 17) hx hb hL6 hown hK hh g33 (by decide) rfl 5 125 rfl rfl (by decide) (by decide) q4 (fun _ h9 => h9) eb34 dX6_begins_11 ?_
    refine lv_iconst (v := 0) hx hb dX6_begins_14 (by decide) ?_
    obtain ⟨g35, h⟩ := h
    obtain ⟨g36, h⟩ := h
    refine xr_iald hx hb hK hh g35 g36 dX6_begins_15 ?_
    refine lv_icmp_lt (tgt := 23) hx hb dX6_begins_16 (by decide) (fun c37 => ?_) (fun c37 => ?_)
    · replace h := h.1 c37
      refine lv_iconst (v := 0) hx hb dX6_begins_23 (by decide) ?_
      exact (xe_z hx hb hr hlocks hbase hh hK hX hS (Or.inl rfl) h (Nat.le_of_ble_eq_true rfl) (Nat.le_of_ble_eq_true rfl) dX6_begins_24)
    · replace h := h.2 c37
      refine lv_iconst (v := 1) hx hb dX6_begins_19 (by decide) ?_
      refine lv_goto (tgt := 24) hx hb dX6_begins_20 (by decide) ?_
      exact (xe_z hx hb hr hlocks hbase hh hK hX hS (Or.inr rfl) h (Nat.le_of_ble_eq_true rfl) (Nat.le_of_ble_eq_true rfl) dX6_begins_24)

set_option maxHeartbeats 4000000 in
set_option maxRecDepth 100000 in
theorem bk_X6_rowsOf_5 {p : Program} {l : Launch} {e : Env} {s : State} {m : MethodId} {args : Array Value} {below : List Frame} {meth : Method} {c : Code} {G : GG} {base : Nat} (C0 : BC p s m args meth c G base RX6 cX6_rowsOf 5 (some .int) wsX6_rowsOf) {Q : Int32 → MM → Prop} : ∀ (n : Nat) (l0 : Nat) (l1 : Int32) (l2 : Int32) (l3 : Int32) (l4 : Int32) (m0 : MM) (H : Heap) (locs : List Loc) (ls : Array Slot), wp_X6_rowsOf_5 Q n l0 l1 l2 l3 l4 m0 → hp G (xA base) m0 H → va_S (xA base) s.heap H locs → lv_has ls 5 [(0, .ref l0), (1, .int l1), (2, .int l2), (3, .int l3), (4, .int l4)] → W p l e ({ frames := 3, cells := 0, slots := 0, locals := 74 } : Room) s m args below meth c H locs 0 0 (MQ below (va_Qi Q (HB G base) (xA base)) args s 0 0 (xA base)) (F0 m 5 ls []) := by
  obtain ⟨hx, hb, hr, hml, hown, hts, hlocks, hK, hbase, hX⟩ := id C0
  intro n
  induction n with
  | zero =>
    intro l0 l1 l2 l3 l4 m0 H locs ls h
    unfold wp_X6_rowsOf_5 at h
    exact h.elim
  | succ n ih =>
    intro l0 l1 l2 l3 l4 m0 H locs ls h hh hS hl
    unfold wp_X6_rowsOf_5 at h
    have hL6 : ∀ w ∈ u_ws RX6 TX6 17, w.before _ s = true := fun w h9 => hts w (List.mem_cons_of_mem _ (List.mem_append_right _ (h9)))
    have q2 : (Cond.fieldLink RX6 46 "RollupStoreModel" "all" "I").before _ s = true := hts _ (List.mem_cons_of_mem _ (List.mem_append_left _ (List.mem_of_getElem? (i := 0) rfl)))
    have q3 : (Cond.fieldLink RX6 19 "RollupStoreModel" "who" "[I").before _ s = true := hts _ (List.mem_cons_of_mem _ (List.mem_append_left _ (List.mem_of_getElem? (i := 1) rfl)))
    refine lv_iload hx hb dX6_rowsOf_5 (lv_at hl 4 rfl) ?_
    refine lv_aload_n hx hb dX6_rowsOf_7 rfl (lv_at hl 0 rfl) ?_
    obtain ⟨g3, h⟩ := h
    refine xr_getI (ci := 6) (C := RX6) (T := TX6) (N := 17) hx hb hL6 hown hK hh g3 (by decide) rfl 2 122 rfl rfl (by decide) (by decide) q2 (fun _ h9 => h9) dX6_rowsOf_8 ?_
    refine lv_icmp_ge (tgt := 49) hx hb dX6_rowsOf_11 (by decide) (fun c4 => ?_) (fun c4 => ?_)
    · replace h := h.1 c4
      refine lv_iload_n hx hb dX6_rowsOf_49 rfl (lv_at hl 3 rfl) ?_
      exact (xe_i hx hb hr hlocks hbase hh hK hX hS h (Nat.le_of_ble_eq_true rfl) (Nat.le_of_ble_eq_true rfl) dX6_rowsOf_50)
    · replace h := h.2 c4
      refine lv_iload_n hx hb dX6_rowsOf_14 rfl (lv_at hl 3 rfl) ?_
      refine lv_aload_n hx hb dX6_rowsOf_15 rfl (lv_at hl 0 rfl) ?_
      obtain ⟨g5, h⟩ := h
      obtain ⟨b6, eb6, h⟩ := h
      refine xr_getR (ci := 6) (C := RX6) (T := TX6) (N := 17) hx hb hL6 hown hK hh g5 (by decide) rfl 6 126 rfl rfl (by decide) (by decide) q3 (fun _ h9 => h9) eb6 dX6_rowsOf_16 ?_
      refine lv_iload hx hb dX6_rowsOf_19 (lv_at hl 4 rfl) ?_
      obtain ⟨g7, h⟩ := h
      obtain ⟨g8, h⟩ := h
      refine xr_iald hx hb hK hh g7 g8 dX6_rowsOf_21 ?_
      refine lv_iload_n hx hb dX6_rowsOf_22 rfl (lv_at hl 1 rfl) ?_
      refine lv_icmp_ne (tgt := 40) hx hb dX6_rowsOf_23 (by decide) (fun c9 => ?_) (fun c9 => ?_)
      · replace h := h.1 c9
        refine lv_iconst (v := 0) hx hb dX6_rowsOf_40 (by decide) ?_
        refine lv_iadd hx hb dX6_rowsOf_41 ?_
        refine lv_topi (fun x10 ex10 => ?_)
        replace h := h x10 ex10
        refine lv_istore_n (lv' := [(3, .int x10), (0, .ref l0), (1, .int l1), (2, .int l2), (4, .int l4)]) hx hb dX6_rowsOf_42 rfl hl (by decide) rfl (fun ls hl => ?_)
        obtain ⟨x11, ex11⟩ : ∃ y : Int32, y = l4 + 1 := ⟨_, rfl⟩
        replace h := h x11 ex11
        refine lv_iinc (v := x11) (lv' := [(4, .int x11), (3, .int x10), (0, .ref l0), (1, .int l1), (2, .int l2)]) hx hb dX6_rowsOf_43 hl (k := 4) rfl (by rw [ex11]; rfl) (by decide) rfl (fun ls hl => ?_)
        refine lv_goto (tgt := 5) hx hb dX6_rowsOf_46 (by decide) ?_
        exact ih _ _ _ _ _ _ _ _ _ h hh hS (lv_sub hl [2, 3, 4, 1, 0] rfl)
      · replace h := h.2 c9
        refine lv_aload_n hx hb dX6_rowsOf_26 rfl (lv_at hl 0 rfl) ?_
        refine lv_iload hx hb dX6_rowsOf_27 (lv_at hl 4 rfl) ?_
        refine lv_iload_n hx hb dX6_rowsOf_29 rfl (lv_at hl 2 rfl) ?_
        obtain ⟨g12, h⟩ := h
        refine xc_i (va_runV (As := [.int l4, .int l2]) (rest := [.int l3]) ⟨hx, hb, hml, hown, hts⟩ (mt_X6_begins l G base h) (cwV 2 hts gX6_rowsOf_X6_begins rfl rfl rfl (by decide +kernel) ⟨Nat.le_of_ble_eq_true rfl, Nat.le_of_ble_eq_true rfl⟩) (xp_V hbase hh hK hX hS (ci := 6) g12 (by decide) rfl) rfl rfl hl.1 rfl (lv_room (Nat.le_of_ble_eq_true rfl)) dX6_rowsOf_30 ⟨Nat.le_of_ble_eq_true rfl, Nat.le_of_ble_eq_true rfl⟩) hS (fun r13 m14 H locs h hh hS => ?_)
        refine lv_if_eq (tgt := 40) hx hb dX6_rowsOf_33 (by decide) (fun c15 => ?_) (fun c15 => ?_)
        · replace h := h.1 c15
          refine lv_iconst (v := 0) hx hb dX6_rowsOf_40 (by decide) ?_
          refine lv_iadd hx hb dX6_rowsOf_41 ?_
          refine lv_topi (fun x16 ex16 => ?_)
          replace h := h x16 ex16
          refine lv_istore_n (lv' := [(3, .int x16), (0, .ref l0), (1, .int l1), (2, .int l2), (4, .int l4)]) hx hb dX6_rowsOf_42 rfl hl (by decide) rfl (fun ls hl => ?_)
          obtain ⟨x17, ex17⟩ : ∃ y : Int32, y = l4 + 1 := ⟨_, rfl⟩
          replace h := h x17 ex17
          refine lv_iinc (v := x17) (lv' := [(4, .int x17), (3, .int x16), (0, .ref l0), (1, .int l1), (2, .int l2)]) hx hb dX6_rowsOf_43 hl (k := 4) rfl (by rw [ex17]; rfl) (by decide) rfl (fun ls hl => ?_)
          refine lv_goto (tgt := 5) hx hb dX6_rowsOf_46 (by decide) ?_
          exact ih _ _ _ _ _ _ _ _ _ h hh hS (lv_sub hl [2, 3, 4, 1, 0] rfl)
        · replace h := h.2 c15
          refine lv_iconst (v := 1) hx hb dX6_rowsOf_36 (by decide) ?_
          refine lv_goto (tgt := 41) hx hb dX6_rowsOf_37 (by decide) ?_
          refine lv_iadd hx hb dX6_rowsOf_41 ?_
          refine lv_topi (fun x18 ex18 => ?_)
          replace h := h x18 ex18
          refine lv_istore_n (lv' := [(3, .int x18), (0, .ref l0), (1, .int l1), (2, .int l2), (4, .int l4)]) hx hb dX6_rowsOf_42 rfl hl (by decide) rfl (fun ls hl => ?_)
          obtain ⟨x19, ex19⟩ : ∃ y : Int32, y = l4 + 1 := ⟨_, rfl⟩
          replace h := h x19 ex19
          refine lv_iinc (v := x19) (lv' := [(4, .int x19), (3, .int x18), (0, .ref l0), (1, .int l1), (2, .int l2)]) hx hb dX6_rowsOf_43 hl (k := 4) rfl (by rw [ex19]; rfl) (by decide) rfl (fun ls hl => ?_)
          refine lv_goto (tgt := 5) hx hb dX6_rowsOf_46 (by decide) ?_
          exact ih _ _ _ _ _ _ _ _ _ h hh hS (lv_sub hl [2, 3, 4, 1, 0] rfl)

set_option maxHeartbeats 4000000 in
set_option maxRecDepth 100000 in
theorem mt_X6_rowsOf (l : Launch) (G : GG) (base : Nat) {a0 : Nat} {p1 : Int32} {p2 : Int32} {m0 : MM} {Q : Int32 → MM → Prop} (h : wp_X6_rowsOf a0 p1 p2 m0 Q) : Met l yX6_rowsOf wsX6_rowsOf ({ frames := 3, cells := 0, slots := 0, locals := 74 }) (va_Pc [.ref a0, .int p1, .int p2] (SP G base m0)) (va_Qi Q (HB G base) (xA base)) 0 0 (xA base) := by
  refine Met.ofW (cc := cX6_rowsOf) (maxL := 5) (ret := (some .int)) (by decide) rfl ?_
  intro p e s m args below meth c s₁ B hml hv
  obtain ⟨rfl, hbase, hh, hK, hX⟩ := hv
  have C0 : BC p s m _ meth c G base RX6 cX6_rowsOf 5 (some .int) wsX6_rowsOf := ⟨B.exec, B.bytes, B.returns, hml, findClass_of_methodNamed B.named, atoms_spec (ws := wsX6_rowsOf) B.pre, B.notSynchronized, hK, hbase, hX⟩
  obtain ⟨hx, hb, hr, -, hown, hts, hlocks, -, -, -⟩ := id C0
  have hS : va_S (xA base) s.heap s.heap [] := va_S.rf
  have hl := lv_entry ([.ref a0, .int p1, .int p2]) (n := 5) (Nat.le_of_ble_eq_true rfl)
  rw [lg_entry_eq]
  generalize (lg_sl ([.ref a0, .int p1, .int p2]) ++ List.replicate (5 - (lg_sl ([.ref a0, .int p1, .int p2])).length) Slot.unset).toArray = ls at hl ⊢
  have hl : lv_has ls 5 [(0, .ref a0), (1, .int p1), (2, .int p2)] := hl
  unfold wp_X6_rowsOf at h
  refine lv_iconst (v := 0) hx hb dX6_rowsOf_0 (by decide) ?_
  refine lv_topi (fun x1 ex1 => ?_)
  replace h := h x1 ex1
  refine lv_istore_n (lv' := [(3, .int x1), (0, .ref a0), (1, .int p1), (2, .int p2)]) hx hb dX6_rowsOf_1 rfl hl (by decide) rfl (fun ls hl => ?_)
  refine lv_iconst (v := 0) hx hb dX6_rowsOf_2 (by decide) ?_
  refine lv_topi (fun x2 ex2 => ?_)
  replace h := h x2 ex2
  refine lv_istore (lv' := [(4, .int x2), (3, .int x1), (0, .ref a0), (1, .int p1), (2, .int p2)]) hx hb dX6_rowsOf_3 hl (by decide) rfl (fun ls hl => ?_)
  obtain ⟨n9, h⟩ := h
  exact bk_X6_rowsOf_5 C0  n9 _ _ _ _ _ _ _ _ _ h hh hS (lv_sub hl [2, 3, 4, 1, 0] rfl)

set_option maxHeartbeats 4000000 in
set_option maxRecDepth 100000 in
theorem bk_X6_allRows_4 {p : Program} {l : Launch} {e : Env} {s : State} {m : MethodId} {args : Array Value} {below : List Frame} {meth : Method} {c : Code} {G : GG} {base : Nat} (C0 : BC p s m args meth c G base RX6 cX6_allRows 3 (some .int) wsX6_allRows) {Q : Int32 → MM → Prop} : ∀ (n : Nat) (l0 : Nat) (l1 : Int32) (l2 : Int32) (m0 : MM) (H : Heap) (locs : List Loc) (ls : Array Slot), wp_X6_allRows_4 Q n l0 l1 l2 m0 → hp G (xA base) m0 H → va_S (xA base) s.heap H locs → lv_has ls 3 [(0, .ref l0), (1, .int l1), (2, .int l2)] → W p l e ({ frames := 4, cells := 0, slots := 0, locals := 98 } : Room) s m args below meth c H locs 0 0 (MQ below (va_Qi Q (HB G base) (xA base)) args s 0 0 (xA base)) (F0 m 4 ls []) := by
  obtain ⟨hx, hb, hr, hml, hown, hts, hlocks, hK, hbase, hX⟩ := id C0
  intro n
  induction n with
  | zero =>
    intro l0 l1 l2 m0 H locs ls h
    unfold wp_X6_allRows_4 at h
    exact h.elim
  | succ n ih =>
    intro l0 l1 l2 m0 H locs ls h hh hS hl
    unfold wp_X6_allRows_4 at h
    have hL6 : ∀ w ∈ u_ws RX6 TX6 17, w.before _ s = true := fun w h9 => hts w (List.mem_cons_of_mem _ (List.mem_append_right _ (h9)))
    have q2 : (Cond.fieldLink RX6 39 "RollupStoreModel" "series" "I").before _ s = true := hts _ (List.mem_cons_of_mem _ (List.mem_append_left _ (List.mem_append_left _ (List.mem_of_getElem? (i := 0) rfl))))
    refine lv_iload_n hx hb dX6_allRows_4 rfl (lv_at hl 2 rfl) ?_
    refine lv_aload_n hx hb dX6_allRows_5 rfl (lv_at hl 0 rfl) ?_
    obtain ⟨g3, h⟩ := h
    refine xr_getI (ci := 6) (C := RX6) (T := TX6) (N := 17) hx hb hL6 hown hK hh g3 (by decide) rfl 1 121 rfl rfl (by decide) (by decide) q2 (fun _ h9 => h9) dX6_allRows_6 ?_
    refine lv_icmp_ge (tgt := 48) hx hb dX6_allRows_9 (by decide) (fun c4 => ?_) (fun c4 => ?_)
    · replace h := h.1 c4
      refine lv_iload_n hx hb dX6_allRows_48 rfl (lv_at hl 1 rfl) ?_
      exact (xe_i hx hb hr hlocks hbase hh hK hX hS h (Nat.le_of_ble_eq_true rfl) (Nat.le_of_ble_eq_true rfl) dX6_allRows_49)
    · replace h := h.2 c4
      refine lv_iload_n hx hb dX6_allRows_12 rfl (lv_at hl 1 rfl) ?_
      refine lv_aload_n hx hb dX6_allRows_13 rfl (lv_at hl 0 rfl) ?_
      refine lv_iload_n hx hb dX6_allRows_14 rfl (lv_at hl 2 rfl) ?_
      refine lv_iconst (v := 0) hx hb dX6_allRows_15 (by decide) ?_
      obtain ⟨g5, h⟩ := h
      refine xc_i (va_runV (As := [.int l2, .int (0 : Int32)]) (rest := [.int l1]) ⟨hx, hb, hml, hown, hts⟩ (mt_X6_rowsOf l G base h) (cwV 2 hts gX6_allRows_X6_rowsOf rfl rfl rfl (by decide +kernel) ⟨Nat.le_of_ble_eq_true rfl, Nat.le_of_ble_eq_true rfl⟩) (xp_V hbase hh hK hX hS (ci := 6) g5 (by decide) rfl) rfl rfl hl.1 rfl (lv_room (Nat.le_of_ble_eq_true rfl)) dX6_allRows_16 ⟨Nat.le_of_ble_eq_true rfl, Nat.le_of_ble_eq_true rfl⟩) hS (fun r6 m7 H locs h hh hS => ?_)
      refine lv_aload_n hx hb dX6_allRows_19 rfl (lv_at hl 0 rfl) ?_
      refine lv_iload_n hx hb dX6_allRows_20 rfl (lv_at hl 2 rfl) ?_
      refine lv_iconst (v := 1) hx hb dX6_allRows_21 (by decide) ?_
      obtain ⟨g8, h⟩ := h
      refine xc_i (va_runV (As := [.int l2, .int (1 : Int32)]) (rest := [.int r6, .int l1]) ⟨hx, hb, hml, hown, hts⟩ (mt_X6_rowsOf l G base h) (cwV 2 hts gX6_allRows_X6_rowsOf rfl rfl rfl (by decide +kernel) ⟨Nat.le_of_ble_eq_true rfl, Nat.le_of_ble_eq_true rfl⟩) (xp_V hbase hh hK hX hS (ci := 6) g8 (by decide) rfl) rfl rfl hl.1 rfl (lv_room (Nat.le_of_ble_eq_true rfl)) dX6_allRows_22 ⟨Nat.le_of_ble_eq_true rfl, Nat.le_of_ble_eq_true rfl⟩) hS (fun r9 m10 H locs h hh hS => ?_)
      refine lv_iadd hx hb dX6_allRows_25 ?_
      refine lv_aload_n hx hb dX6_allRows_26 rfl (lv_at hl 0 rfl) ?_
      refine lv_iload_n hx hb dX6_allRows_27 rfl (lv_at hl 2 rfl) ?_
      refine lv_iconst (v := 2) hx hb dX6_allRows_28 (by decide) ?_
      obtain ⟨g11, h⟩ := h
      refine xc_i (va_runV (As := [.int l2, .int (2 : Int32)]) (rest := [.int (r6 + r9), .int l1]) ⟨hx, hb, hml, hown, hts⟩ (mt_X6_rowsOf l G base h) (cwV 2 hts gX6_allRows_X6_rowsOf rfl rfl rfl (by decide +kernel) ⟨Nat.le_of_ble_eq_true rfl, Nat.le_of_ble_eq_true rfl⟩) (xp_V hbase hh hK hX hS (ci := 6) g11 (by decide) rfl) rfl rfl hl.1 rfl (lv_room (Nat.le_of_ble_eq_true rfl)) dX6_allRows_29 ⟨Nat.le_of_ble_eq_true rfl, Nat.le_of_ble_eq_true rfl⟩) hS (fun r12 m13 H locs h hh hS => ?_)
      refine lv_iadd hx hb dX6_allRows_32 ?_
      refine lv_aload_n hx hb dX6_allRows_33 rfl (lv_at hl 0 rfl) ?_
      refine lv_iload_n hx hb dX6_allRows_34 rfl (lv_at hl 2 rfl) ?_
      refine lv_iconst (v := 3) hx hb dX6_allRows_35 (by decide) ?_
      obtain ⟨g14, h⟩ := h
      refine xc_i (va_runV (As := [.int l2, .int (3 : Int32)]) (rest := [.int ((r6 + r9) + r12), .int l1]) ⟨hx, hb, hml, hown, hts⟩ (mt_X6_rowsOf l G base h) (cwV 2 hts gX6_allRows_X6_rowsOf rfl rfl rfl (by decide +kernel) ⟨Nat.le_of_ble_eq_true rfl, Nat.le_of_ble_eq_true rfl⟩) (xp_V hbase hh hK hX hS (ci := 6) g14 (by decide) rfl) rfl rfl hl.1 rfl (lv_room (Nat.le_of_ble_eq_true rfl)) dX6_allRows_36 ⟨Nat.le_of_ble_eq_true rfl, Nat.le_of_ble_eq_true rfl⟩) hS (fun r15 m16 H locs h hh hS => ?_)
      refine lv_iadd hx hb dX6_allRows_39 ?_
      refine lv_iadd hx hb dX6_allRows_40 ?_
      refine lv_topi (fun x17 ex17 => ?_)
      replace h := h x17 ex17
      refine lv_istore_n (lv' := [(1, .int x17), (0, .ref l0), (2, .int l2)]) hx hb dX6_allRows_41 rfl hl (by decide) rfl (fun ls hl => ?_)
      obtain ⟨x18, ex18⟩ : ∃ y : Int32, y = l2 + 1 := ⟨_, rfl⟩
      replace h := h x18 ex18
      refine lv_iinc (v := x18) (lv' := [(2, .int x18), (1, .int x17), (0, .ref l0)]) hx hb dX6_allRows_42 hl (k := 2) rfl (by rw [ex18]; rfl) (by decide) rfl (fun ls hl => ?_)
      refine lv_goto (tgt := 4) hx hb dX6_allRows_45 (by decide) ?_
      exact ih _ _ _ _ _ _ _ h hh hS (lv_sub hl [2, 1, 0] rfl)

set_option maxHeartbeats 4000000 in
set_option maxRecDepth 100000 in
theorem mt_X6_allRows (l : Launch) (G : GG) (base : Nat) {a0 : Nat} {m0 : MM} {Q : Int32 → MM → Prop} (h : wp_X6_allRows a0 m0 Q) : Met l yX6_allRows wsX6_allRows ({ frames := 4, cells := 0, slots := 0, locals := 98 }) (va_Pc [.ref a0] (SP G base m0)) (va_Qi Q (HB G base) (xA base)) 0 0 (xA base) := by
  refine Met.ofW (cc := cX6_allRows) (maxL := 3) (ret := (some .int)) (by decide) rfl ?_
  intro p e s m args below meth c s₁ B hml hv
  obtain ⟨rfl, hbase, hh, hK, hX⟩ := hv
  have C0 : BC p s m _ meth c G base RX6 cX6_allRows 3 (some .int) wsX6_allRows := ⟨B.exec, B.bytes, B.returns, hml, findClass_of_methodNamed B.named, atoms_spec (ws := wsX6_allRows) B.pre, B.notSynchronized, hK, hbase, hX⟩
  obtain ⟨hx, hb, hr, -, hown, hts, hlocks, -, -, -⟩ := id C0
  have hS : va_S (xA base) s.heap s.heap [] := va_S.rf
  have hl := lv_entry ([.ref a0]) (n := 3) (Nat.le_of_ble_eq_true rfl)
  rw [lg_entry_eq]
  generalize (lg_sl ([.ref a0]) ++ List.replicate (3 - (lg_sl ([.ref a0])).length) Slot.unset).toArray = ls at hl ⊢
  have hl : lv_has ls 3 [(0, .ref a0)] := hl
  unfold wp_X6_allRows at h
  refine lv_iconst (v := 0) hx hb dX6_allRows_0 (by decide) ?_
  refine lv_topi (fun x1 ex1 => ?_)
  replace h := h x1 ex1
  refine lv_istore_n (lv' := [(1, .int x1), (0, .ref a0)]) hx hb dX6_allRows_1 rfl hl (by decide) rfl (fun ls hl => ?_)
  refine lv_iconst (v := 0) hx hb dX6_allRows_2 (by decide) ?_
  refine lv_topi (fun x2 ex2 => ?_)
  replace h := h x2 ex2
  refine lv_istore_n (lv' := [(2, .int x2), (1, .int x1), (0, .ref a0)]) hx hb dX6_allRows_3 rfl hl (by decide) rfl (fun ls hl => ?_)
  obtain ⟨n9, h⟩ := h
  exact bk_X6_allRows_4 C0  n9 _ _ _ _ _ _ _ h hh hS (lv_sub hl [2, 1, 0] rfl)

set_option maxHeartbeats 4000000 in
set_option maxRecDepth 100000 in
theorem bk_X6_expire_2 {p : Program} {l : Launch} {e : Env} {s : State} {m : MethodId} {args : Array Value} {below : List Frame} {meth : Method} {c : Code} {G : GG} {base : Nat} (C0 : BC p s m args meth c G base RX6 cX6_expire 3 none wsX6_expire) {Q : MM → Prop} : ∀ (n : Nat) (l0 : Nat) (l1 : Int32) (m0 : MM) (H : Heap) (locs : List Loc) (ls : Array Slot), wp_X6_expire_2 Q n l0 l1 m0 → hp G (xA base) m0 H → va_S (xA base) s.heap H locs → lv_has ls 3 [(0, .ref l0), (1, .int l1)] → W p l e ({ frames := 0, cells := 0, slots := 0, locals := 8 } : Room) s m args below meth c H locs 0 0 (MQ below (va_Qv Q (HB G base) (xA base)) args s 0 0 (xA base)) (F0 m 2 ls []) := by
  obtain ⟨hx, hb, hr, hml, hown, hts, hlocks, hK, hbase, hX⟩ := id C0
  intro n
  induction n with
  | zero =>
    intro l0 l1 m0 H locs ls h
    unfold wp_X6_expire_2 at h
    exact h.elim
  | succ n ih =>
    intro l0 l1 m0 H locs ls h hh hS hl
    unfold wp_X6_expire_2 at h
    have hL6 : ∀ w ∈ u_ws RX6 TX6 17, w.before _ s = true := fun w h9 => hts w (List.mem_cons_of_mem _ (List.mem_append_right _ (h9)))
    have q2 : (Cond.fieldLink RX6 62 "RollupStoreModel" "clock" "I").before _ s = true := hts _ (List.mem_cons_of_mem _ (List.mem_append_left _ (List.mem_of_getElem? (i := 0) rfl)))
    have q3 : (Cond.fieldLink RX6 13 "RollupStoreModel" "retention" "[I").before _ s = true := hts _ (List.mem_cons_of_mem _ (List.mem_append_left _ (List.mem_of_getElem? (i := 1) rfl)))
    have q4 : (Cond.fieldLink RX6 16 "RollupStoreModel" "horizon" "[I").before _ s = true := hts _ (List.mem_cons_of_mem _ (List.mem_append_left _ (List.mem_of_getElem? (i := 2) rfl)))
    refine lv_iload_n hx hb dX6_expire_2 rfl (lv_at hl 1 rfl) ?_
    refine lv_iconst (v := 3) hx hb dX6_expire_3 (by decide) ?_
    refine lv_icmp_gt (tgt := 51) hx hb dX6_expire_4 (by decide) (fun c2 => ?_) (fun c2 => ?_)
    · replace h := h.1 c2
      exact (xe_v hx hb hr hlocks hbase hh hK hX hS h (Nat.le_of_ble_eq_true rfl) (Nat.le_of_ble_eq_true rfl) dX6_expire_51)
    · replace h := h.2 c2
      refine lv_aload_n hx hb dX6_expire_7 rfl (lv_at hl 0 rfl) ?_
      obtain ⟨g3, h⟩ := h
      refine xr_getI (ci := 6) (C := RX6) (T := TX6) (N := 17) hx hb hL6 hown hK hh g3 (by decide) rfl 0 120 rfl rfl (by decide) (by decide) q2 (fun _ h9 => h9) dX6_expire_8 ?_
      refine lv_aload_n hx hb dX6_expire_11 rfl (lv_at hl 0 rfl) ?_
      obtain ⟨g4, h⟩ := h
      obtain ⟨b5, eb5, h⟩ := h
      refine xr_getR (ci := 6) (C := RX6) (T := TX6) (N := 17) hx hb hL6 hown hK hh g4 (by decide) rfl 4 124 rfl rfl (by decide) (by decide) q3 (fun _ h9 => h9) eb5 dX6_expire_12 ?_
      refine lv_iload_n hx hb dX6_expire_15 rfl (lv_at hl 1 rfl) ?_
      obtain ⟨g6, h⟩ := h
      obtain ⟨g7, h⟩ := h
      refine xr_iald hx hb hK hh g6 g7 dX6_expire_16 ?_
      refine lv_isub hx hb dX6_expire_17 ?_
      refine lv_topi (fun x8 ex8 => ?_)
      replace h := h x8 ex8
      refine lv_istore_n (lv' := [(2, .int x8), (0, .ref l0), (1, .int l1)]) hx hb dX6_expire_18 rfl hl (by decide) rfl (fun ls hl => ?_)
      refine lv_aload_n hx hb dX6_expire_19 rfl (lv_at hl 1 rfl) ?_
      obtain ⟨g9, h⟩ := h
      obtain ⟨b10, eb10, h⟩ := h
      refine xr_getR (ci := 6) (C := RX6) (T := TX6) (N := 17) hx hb hL6 hown hK hh g9 (by decide) rfl 5 125 rfl rfl (by decide) (by decide) q4 (fun _ h9 => h9) eb10 dX6_expire_20 ?_
      refine lv_iload_n hx hb dX6_expire_23 rfl (lv_at hl 2 rfl) ?_
      refine lv_iload_n hx hb dX6_expire_24 rfl (lv_at hl 0 rfl) ?_
      refine lv_aload_n hx hb dX6_expire_25 rfl (lv_at hl 1 rfl) ?_
      obtain ⟨g11, h⟩ := h
      obtain ⟨b12, eb12, h⟩ := h
      refine xr_getR (ci := 6) (C := RX6) (T := TX6) (N := 17) hx hb hL6 hown hK hh g11 (by decide) rfl 5 125 rfl rfl (by decide) (by decide) q4 (fun _ h9 => h9) eb12 dX6_expire_26 ?_
      refine lv_iload_n hx hb dX6_expire_29 rfl (lv_at hl 2 rfl) ?_
      obtain ⟨g13, h⟩ := h
      obtain ⟨g14, h⟩ := h
      refine xr_iald hx hb hK hh g13 g14 dX6_expire_30 ?_
      refine lv_icmp_le (tgt := 38) hx hb dX6_expire_31 (by decide) (fun c15 => ?_) (fun c15 => ?_)
      · replace h := h.1 c15
        refine lv_aload_n hx hb dX6_expire_38 rfl (lv_at hl 1 rfl) ?_
        obtain ⟨g16, h⟩ := h
        obtain ⟨b17, eb17, h⟩ := h
        refine xr_getR (ci := 6) (C := RX6) (T := TX6) (N := 17) hx hb hL6 hown hK hh g16 (by decide) rfl 5 125 rfl rfl (by decide) (by decide) q4 (fun _ h9 => h9) eb17 dX6_expire_39 ?_
        refine lv_iload_n hx hb dX6_expire_42 rfl (lv_at hl 2 rfl) ?_
        obtain ⟨g18, h⟩ := h
        obtain ⟨g19, h⟩ := h
        refine xr_iald hx hb hK hh g18 g19 dX6_expire_43 ?_
        obtain ⟨g20, h⟩ := h
        obtain ⟨g21, h⟩ := h
        refine xr_iast hx hb hK hh g20 hS g21 dX6_expire_44 (fun H locs hh hS => ?_)
        obtain ⟨m22, em22⟩ : ∃ z : MM, z = sAI m0 b10 (va_up (mAI m0 b10) l1.toNatClampNeg (mAI m0 b17 l1.toNatClampNeg)) := ⟨_, rfl⟩
        rw [← em22] at hh
        replace h := h m22 em22
        obtain ⟨x23, ex23⟩ : ∃ y : Int32, y = l1 + 1 := ⟨_, rfl⟩
        replace h := h x23 ex23
        refine lv_iinc (v := x23) (lv' := [(1, .int x23), (2, .int x8), (0, .ref l0)]) hx hb dX6_expire_45 hl (k := 2) rfl (by rw [ex23]; rfl) (by decide) rfl (fun ls hl => ?_)
        refine lv_goto (tgt := 2) hx hb dX6_expire_48 (by decide) ?_
        exact ih _ _ _ _ _ _ h hh hS (lv_sub hl [2, 0] rfl)
      · replace h := h.2 c15
        refine lv_iload_n hx hb dX6_expire_34 rfl (lv_at hl 0 rfl) ?_
        refine lv_goto (tgt := 44) hx hb dX6_expire_35 (by decide) ?_
        obtain ⟨g24, h⟩ := h
        obtain ⟨g25, h⟩ := h
        refine xr_iast hx hb hK hh g24 hS g25 dX6_expire_44 (fun H locs hh hS => ?_)
        obtain ⟨m26, em26⟩ : ∃ z : MM, z = sAI m0 b10 (va_up (mAI m0 b10) l1.toNatClampNeg x8) := ⟨_, rfl⟩
        rw [← em26] at hh
        replace h := h m26 em26
        obtain ⟨x27, ex27⟩ : ∃ y : Int32, y = l1 + 1 := ⟨_, rfl⟩
        replace h := h x27 ex27
        refine lv_iinc (v := x27) (lv' := [(1, .int x27), (2, .int x8), (0, .ref l0)]) hx hb dX6_expire_45 hl (k := 2) rfl (by rw [ex27]; rfl) (by decide) rfl (fun ls hl => ?_)
        refine lv_goto (tgt := 2) hx hb dX6_expire_48 (by decide) ?_
        exact ih _ _ _ _ _ _ h hh hS (lv_sub hl [2, 0] rfl)

set_option maxHeartbeats 4000000 in
set_option maxRecDepth 100000 in
theorem mt_X6_expire (l : Launch) (G : GG) (base : Nat) {a0 : Nat} {m0 : MM} {Q : MM → Prop} (h : wp_X6_expire a0 m0 Q) : Met l yX6_expire wsX6_expire ({ frames := 0, cells := 0, slots := 0, locals := 8 }) (va_Pc [.ref a0] (SP G base m0)) (va_Qv Q (HB G base) (xA base)) 0 0 (xA base) := by
  refine Met.ofW (cc := cX6_expire) (maxL := 3) (ret := none) (by decide) rfl ?_
  intro p e s m args below meth c s₁ B hml hv
  obtain ⟨rfl, hbase, hh, hK, hX⟩ := hv
  have C0 : BC p s m _ meth c G base RX6 cX6_expire 3 none wsX6_expire := ⟨B.exec, B.bytes, B.returns, hml, findClass_of_methodNamed B.named, atoms_spec (ws := wsX6_expire) B.pre, B.notSynchronized, hK, hbase, hX⟩
  obtain ⟨hx, hb, hr, -, hown, hts, hlocks, -, -, -⟩ := id C0
  have hS : va_S (xA base) s.heap s.heap [] := va_S.rf
  have hl := lv_entry ([.ref a0]) (n := 3) (Nat.le_of_ble_eq_true rfl)
  rw [lg_entry_eq]
  generalize (lg_sl ([.ref a0]) ++ List.replicate (3 - (lg_sl ([.ref a0])).length) Slot.unset).toArray = ls at hl ⊢
  have hl : lv_has ls 3 [(0, .ref a0)] := hl
  unfold wp_X6_expire at h
  refine lv_iconst (v := 0) hx hb dX6_expire_0 (by decide) ?_
  refine lv_topi (fun x1 ex1 => ?_)
  replace h := h x1 ex1
  refine lv_istore_n (lv' := [(1, .int x1), (0, .ref a0)]) hx hb dX6_expire_1 rfl hl (by decide) rfl (fun ls hl => ?_)
  obtain ⟨n9, h⟩ := h
  exact bk_X6_expire_2 C0  n9 _ _ _ _ _ _ h hh hS (lv_sub hl [1, 0] rfl)

set_option maxHeartbeats 4000000 in
set_option maxRecDepth 100000 in
theorem mt_X6_advance (l : Launch) (G : GG) (base : Nat) {a0 : Nat} {p1 : Int32} {m0 : MM} {Q : Int32 → MM → Prop} (h : wp_X6_advance a0 p1 m0 Q) : Met l yX6_advance wsX6_advance ({ frames := 5, cells := 0, slots := 0, locals := 120 }) (va_Pc [.ref a0, .int p1] (SP G base m0)) (va_Qi Q (HB G base) (xA base)) 0 0 (xA base) := by
  refine Met.ofW (cc := cX6_advance) (maxL := 3) (ret := (some .int)) (by decide) rfl ?_
  intro p e s m args below meth c s₁ B hml hv
  obtain ⟨rfl, hbase, hh, hK, hX⟩ := hv
  have C0 : BC p s m _ meth c G base RX6 cX6_advance 3 (some .int) wsX6_advance := ⟨B.exec, B.bytes, B.returns, hml, findClass_of_methodNamed B.named, atoms_spec (ws := wsX6_advance) B.pre, B.notSynchronized, hK, hbase, hX⟩
  obtain ⟨hx, hb, hr, -, hown, hts, hlocks, -, -, -⟩ := id C0
  have hS : va_S (xA base) s.heap s.heap [] := va_S.rf
  have hl := lv_entry ([.ref a0, .int p1]) (n := 3) (Nat.le_of_ble_eq_true rfl)
  rw [lg_entry_eq]
  generalize (lg_sl ([.ref a0, .int p1]) ++ List.replicate (3 - (lg_sl ([.ref a0, .int p1])).length) Slot.unset).toArray = ls at hl ⊢
  have hl : lv_has ls 3 [(0, .ref a0), (1, .int p1)] := hl
  unfold wp_X6_advance at h
  have q1 : (Cond.constant RX6 58 (1000000)).before _ s = true := hts _ (List.mem_cons_of_mem _ (List.mem_append_left _ (List.mem_append_left _ (List.mem_of_getElem? (i := 0) rfl))))
  have hL6 : ∀ w ∈ u_ws RX6 TX6 17, w.before _ s = true := fun w h9 => hts w (List.mem_cons_of_mem _ (List.mem_append_right _ (h9)))
  have q3 : (Cond.fieldLink RX6 62 "RollupStoreModel" "clock" "I").before _ s = true := hts _ (List.mem_cons_of_mem _ (List.mem_append_left _ (List.mem_append_left _ (List.mem_of_getElem? (i := 1) rfl))))
  refine lv_aload_n hx hb dX6_advance_0 rfl (lv_at hl 0 rfl) ?_
  refine lv_iload_n hx hb dX6_advance_1 rfl (lv_at hl 1 rfl) ?_
  refine lv_iconst (v := 1) hx hb dX6_advance_2 (by decide) ?_
  refine lv_ldc hx hb hown q1 dX6_advance_3 ?_
  refine xc_i (va_runS (As := [.int p1, .int (1 : Int32), .int (1000000 : Int32)]) (rest := [.ref a0]) ⟨hx, hb, hml, hown, hts⟩ (mt_X6_isIn l G base h) (va_cwS 3 hts gX6_advance_X6_isIn rfl rfl rfl (by decide +kernel) ⟨Nat.le_of_ble_eq_true rfl, Nat.le_of_ble_eq_true rfl⟩) (xp_S hbase hh hK hX hS) rfl rfl hl.1 rfl (lv_room (Nat.le_of_ble_eq_true rfl)) dX6_advance_5 ⟨Nat.le_of_ble_eq_true rfl, Nat.le_of_ble_eq_true rfl⟩) hS (fun r1 m2 H locs h hh hS => ?_)
  refine lv_if_eq (tgt := 15) hx hb dX6_advance_8 (by decide) (fun c3 => ?_) (fun c3 => ?_)
  · replace h := h.1 c3
    refine lv_iconst (v := 1) hx hb dX6_advance_15 (by decide) ?_
    obtain ⟨g4, h⟩ := h
    refine xc_i (va_runV (As := [.int (1 : Int32)]) (rest := []) ⟨hx, hb, hml, hown, hts⟩ (mt_X6_can l G base h) (cwV 1 hts gX6_advance_X6_can rfl rfl rfl (by decide +kernel) ⟨Nat.le_of_ble_eq_true rfl, Nat.le_of_ble_eq_true rfl⟩) (xp_V hbase hh hK hX hS (ci := 6) g4 (by decide) rfl) rfl rfl hl.1 rfl (lv_room (Nat.le_of_ble_eq_true rfl)) dX6_advance_16 ⟨Nat.le_of_ble_eq_true rfl, Nat.le_of_ble_eq_true rfl⟩) hS (fun r5 m6 H locs h hh hS => ?_)
    refine lv_if_ne (tgt := 24) hx hb dX6_advance_19 (by decide) (fun c7 => ?_) (fun c7 => ?_)
    · replace h := h.1 c7
      refine lv_aload_n hx hb dX6_advance_24 rfl (lv_at hl 0 rfl) ?_
      obtain ⟨g8, h⟩ := h
      refine xc_i (va_runV (As := []) (rest := []) ⟨hx, hb, hml, hown, hts⟩ (mt_X6_allRows l G base h) (cwV 0 hts gX6_advance_X6_allRows rfl rfl rfl (by decide +kernel) ⟨Nat.le_of_ble_eq_true rfl, Nat.le_of_ble_eq_true rfl⟩) (xp_V hbase hh hK hX hS (ci := 6) g8 (by decide) rfl) rfl rfl hl.1 rfl (lv_room (Nat.le_of_ble_eq_true rfl)) dX6_advance_25 ⟨Nat.le_of_ble_eq_true rfl, Nat.le_of_ble_eq_true rfl⟩) hS (fun r9 m10 H locs h hh hS => ?_)
      refine lv_istore_n (lv' := [(2, .int r9), (0, .ref a0), (1, .int p1)]) hx hb dX6_advance_28 rfl hl (by decide) rfl (fun ls hl => ?_)
      refine lv_aload_n hx hb dX6_advance_29 rfl (lv_at hl 1 rfl) ?_
      refine lv_dup hx hb dX6_advance_30 rfl ?_
      obtain ⟨g11, h⟩ := h
      refine xr_getI (ci := 6) (C := RX6) (T := TX6) (N := 17) hx hb hL6 hown hK hh g11 (by decide) rfl 0 120 rfl rfl (by decide) (by decide) q3 (fun _ h9 => h9) dX6_advance_31 ?_
      refine lv_iload_n hx hb dX6_advance_34 rfl (lv_at hl 2 rfl) ?_
      refine lv_iadd hx hb dX6_advance_35 ?_
      obtain ⟨g12, h⟩ := h
      refine xr_putI (ci := 6) (C := RX6) (T := TX6) (N := 17) hx hb hL6 hown hK hh g12 (by decide) rfl 0 120 rfl rfl (by decide) (by decide) q3 (fun _ h9 => h9) tyX6 tyX6_ok nmX6 rfl rfl rfl hS dX6_advance_36 (fun H locs hh hS => ?_)
      obtain ⟨m13, em13⟩ : ∃ z : MM, z = sI m10 120 a0 ((mI m10 120 a0) + p1) := ⟨_, rfl⟩
      rw [← em13] at hh
      replace h := h m13 em13
      refine lv_aload_n hx hb dX6_advance_39 rfl (lv_at hl 1 rfl) ?_
      obtain ⟨g14, h⟩ := h
      refine xc_v (va_runV (As := []) (rest := []) ⟨hx, hb, hml, hown, hts⟩ (mt_X6_expire l G base h) (cwV 0 hts gX6_advance_X6_expire rfl rfl rfl (by decide +kernel) ⟨Nat.le_of_ble_eq_true rfl, Nat.le_of_ble_eq_true rfl⟩) (xp_V hbase hh hK hX hS (ci := 6) g14 (by decide) rfl) rfl rfl hl.1 rfl (lv_room (Nat.le_of_ble_eq_true rfl)) dX6_advance_40 ⟨Nat.le_of_ble_eq_true rfl, Nat.le_of_ble_eq_true rfl⟩) hS (fun m16 H locs h hh hS => ?_)
      refine lv_iload_n hx hb dX6_advance_43 rfl (lv_at hl 0 rfl) ?_
      refine lv_aload_n hx hb dX6_advance_44 rfl (lv_at hl 1 rfl) ?_
      obtain ⟨g17, h⟩ := h
      refine xc_i (va_runV (As := []) (rest := [.int r9]) ⟨hx, hb, hml, hown, hts⟩ (mt_X6_allRows l G base h) (cwV 0 hts gX6_advance_X6_allRows rfl rfl rfl (by decide +kernel) ⟨Nat.le_of_ble_eq_true rfl, Nat.le_of_ble_eq_true rfl⟩) (xp_V hbase hh hK hX hS (ci := 6) g17 (by decide) rfl) rfl rfl hl.1 rfl (lv_room (Nat.le_of_ble_eq_true rfl)) dX6_advance_45 ⟨Nat.le_of_ble_eq_true rfl, Nat.le_of_ble_eq_true rfl⟩) hS (fun r18 m19 H locs h hh hS => ?_)
      refine lv_isub hx hb dX6_advance_48 ?_
      exact (xe_i hx hb hr hlocks hbase hh hK hX hS h (Nat.le_of_ble_eq_true rfl) (Nat.le_of_ble_eq_true rfl) dX6_advance_49)
    · replace h := h.2 c7
      refine lv_iconst (v := 0) hx hb dX6_advance_22 (by decide) ?_
      exact (xe_i hx hb hr hlocks hbase hh hK hX hS h (Nat.le_of_ble_eq_true rfl) (Nat.le_of_ble_eq_true rfl) dX6_advance_23)
  · replace h := h.2 c3
    refine lv_iconst (v := 0) hx hb dX6_advance_11 (by decide) ?_
    refine lv_goto (tgt := 16) hx hb dX6_advance_12 (by decide) ?_
    obtain ⟨g20, h⟩ := h
    refine xc_i (va_runV (As := [.int (0 : Int32)]) (rest := []) ⟨hx, hb, hml, hown, hts⟩ (mt_X6_can l G base h) (cwV 1 hts gX6_advance_X6_can rfl rfl rfl (by decide +kernel) ⟨Nat.le_of_ble_eq_true rfl, Nat.le_of_ble_eq_true rfl⟩) (xp_V hbase hh hK hX hS (ci := 6) g20 (by decide) rfl) rfl rfl hl.1 rfl (lv_room (Nat.le_of_ble_eq_true rfl)) dX6_advance_16 ⟨Nat.le_of_ble_eq_true rfl, Nat.le_of_ble_eq_true rfl⟩) hS (fun r21 m22 H locs h hh hS => ?_)
    refine lv_if_ne (tgt := 24) hx hb dX6_advance_19 (by decide) (fun c23 => ?_) (fun c23 => ?_)
    · replace h := h.1 c23
      refine lv_aload_n hx hb dX6_advance_24 rfl (lv_at hl 0 rfl) ?_
      obtain ⟨g24, h⟩ := h
      refine xc_i (va_runV (As := []) (rest := []) ⟨hx, hb, hml, hown, hts⟩ (mt_X6_allRows l G base h) (cwV 0 hts gX6_advance_X6_allRows rfl rfl rfl (by decide +kernel) ⟨Nat.le_of_ble_eq_true rfl, Nat.le_of_ble_eq_true rfl⟩) (xp_V hbase hh hK hX hS (ci := 6) g24 (by decide) rfl) rfl rfl hl.1 rfl (lv_room (Nat.le_of_ble_eq_true rfl)) dX6_advance_25 ⟨Nat.le_of_ble_eq_true rfl, Nat.le_of_ble_eq_true rfl⟩) hS (fun r25 m26 H locs h hh hS => ?_)
      refine lv_istore_n (lv' := [(2, .int r25), (0, .ref a0), (1, .int p1)]) hx hb dX6_advance_28 rfl hl (by decide) rfl (fun ls hl => ?_)
      refine lv_aload_n hx hb dX6_advance_29 rfl (lv_at hl 1 rfl) ?_
      refine lv_dup hx hb dX6_advance_30 rfl ?_
      obtain ⟨g27, h⟩ := h
      refine xr_getI (ci := 6) (C := RX6) (T := TX6) (N := 17) hx hb hL6 hown hK hh g27 (by decide) rfl 0 120 rfl rfl (by decide) (by decide) q3 (fun _ h9 => h9) dX6_advance_31 ?_
      refine lv_iload_n hx hb dX6_advance_34 rfl (lv_at hl 2 rfl) ?_
      refine lv_iadd hx hb dX6_advance_35 ?_
      obtain ⟨g28, h⟩ := h
      refine xr_putI (ci := 6) (C := RX6) (T := TX6) (N := 17) hx hb hL6 hown hK hh g28 (by decide) rfl 0 120 rfl rfl (by decide) (by decide) q3 (fun _ h9 => h9) tyX6 tyX6_ok nmX6 rfl rfl rfl hS dX6_advance_36 (fun H locs hh hS => ?_)
      obtain ⟨m29, em29⟩ : ∃ z : MM, z = sI m26 120 a0 ((mI m26 120 a0) + p1) := ⟨_, rfl⟩
      rw [← em29] at hh
      replace h := h m29 em29
      refine lv_aload_n hx hb dX6_advance_39 rfl (lv_at hl 1 rfl) ?_
      obtain ⟨g30, h⟩ := h
      refine xc_v (va_runV (As := []) (rest := []) ⟨hx, hb, hml, hown, hts⟩ (mt_X6_expire l G base h) (cwV 0 hts gX6_advance_X6_expire rfl rfl rfl (by decide +kernel) ⟨Nat.le_of_ble_eq_true rfl, Nat.le_of_ble_eq_true rfl⟩) (xp_V hbase hh hK hX hS (ci := 6) g30 (by decide) rfl) rfl rfl hl.1 rfl (lv_room (Nat.le_of_ble_eq_true rfl)) dX6_advance_40 ⟨Nat.le_of_ble_eq_true rfl, Nat.le_of_ble_eq_true rfl⟩) hS (fun m32 H locs h hh hS => ?_)
      refine lv_iload_n hx hb dX6_advance_43 rfl (lv_at hl 0 rfl) ?_
      refine lv_aload_n hx hb dX6_advance_44 rfl (lv_at hl 1 rfl) ?_
      obtain ⟨g33, h⟩ := h
      refine xc_i (va_runV (As := []) (rest := [.int r25]) ⟨hx, hb, hml, hown, hts⟩ (mt_X6_allRows l G base h) (cwV 0 hts gX6_advance_X6_allRows rfl rfl rfl (by decide +kernel) ⟨Nat.le_of_ble_eq_true rfl, Nat.le_of_ble_eq_true rfl⟩) (xp_V hbase hh hK hX hS (ci := 6) g33 (by decide) rfl) rfl rfl hl.1 rfl (lv_room (Nat.le_of_ble_eq_true rfl)) dX6_advance_45 ⟨Nat.le_of_ble_eq_true rfl, Nat.le_of_ble_eq_true rfl⟩) hS (fun r34 m35 H locs h hh hS => ?_)
      refine lv_isub hx hb dX6_advance_48 ?_
      exact (xe_i hx hb hr hlocks hbase hh hK hX hS h (Nat.le_of_ble_eq_true rfl) (Nat.le_of_ble_eq_true rfl) dX6_advance_49)
    · replace h := h.2 c23
      refine lv_iconst (v := 0) hx hb dX6_advance_22 (by decide) ?_
      exact (xe_i hx hb hr hlocks hbase hh hK hX hS h (Nat.le_of_ble_eq_true rfl) (Nat.le_of_ble_eq_true rfl) dX6_advance_23)

set_option maxHeartbeats 4000000 in
set_option maxRecDepth 100000 in
theorem mt_X6_isTier (l : Launch) (G : GG) (base : Nat) {p1 : Int32} {m0 : MM} {Q : Int32 → MM → Prop} (h : wp_X6_isTier p1 m0 Q) : Met l yX6_isTier wsX6_isTier ({ frames := 0, cells := 0, slots := 0, locals := 8 }) (va_Pc [.int p1] (SP G base m0)) (va_Qi Q (HB G base) (xA base)) 0 0 (xA base) := by
  refine Met.ofW (cc := cX6_isTier) (maxL := 1) (ret := (some .boolean)) (by decide) rfl ?_
  intro p e s m args below meth c s₁ B hml hv
  obtain ⟨rfl, hbase, hh, hK, hX⟩ := hv
  have C0 : BC p s m _ meth c G base RX6 cX6_isTier 1 (some .boolean) wsX6_isTier := ⟨B.exec, B.bytes, B.returns, hml, findClass_of_methodNamed B.named, atoms_spec (ws := wsX6_isTier) B.pre, B.notSynchronized, hK, hbase, hX⟩
  obtain ⟨hx, hb, hr, -, hown, hts, hlocks, -, -, -⟩ := id C0
  have hS : va_S (xA base) s.heap s.heap [] := va_S.rf
  have hl := lv_entry ([.int p1]) (n := 1) (Nat.le_of_ble_eq_true rfl)
  rw [lg_entry_eq]
  generalize (lg_sl ([.int p1]) ++ List.replicate (1 - (lg_sl ([.int p1])).length) Slot.unset).toArray = ls at hl ⊢
  have hl : lv_has ls 1 [(0, .int p1)] := hl
  unfold wp_X6_isTier at h
  refine lv_iload_n hx hb dX6_isTier_0 rfl (lv_at hl 0 rfl) ?_
  refine lv_if_lt (tgt := 13) hx hb dX6_isTier_1 (by decide) (fun c1 => ?_) (fun c1 => ?_)
  · replace h := h.1 c1
    refine lv_iconst (v := 0) hx hb dX6_isTier_13 (by decide) ?_
    exact (xe_z hx hb hr hlocks hbase hh hK hX hS (Or.inl rfl) h (Nat.le_of_ble_eq_true rfl) (Nat.le_of_ble_eq_true rfl) dX6_isTier_14)
  · replace h := h.2 c1
    refine lv_iload_n hx hb dX6_isTier_4 rfl (lv_at hl 0 rfl) ?_
    refine lv_iconst (v := 3) hx hb dX6_isTier_5 (by decide) ?_
    refine lv_icmp_gt (tgt := 13) hx hb dX6_isTier_6 (by decide) (fun c2 => ?_) (fun c2 => ?_)
    · replace h := h.1 c2
      refine lv_iconst (v := 0) hx hb dX6_isTier_13 (by decide) ?_
      exact (xe_z hx hb hr hlocks hbase hh hK hX hS (Or.inl rfl) h (Nat.le_of_ble_eq_true rfl) (Nat.le_of_ble_eq_true rfl) dX6_isTier_14)
    · replace h := h.2 c2
      refine lv_iconst (v := 1) hx hb dX6_isTier_9 (by decide) ?_
      refine lv_goto (tgt := 14) hx hb dX6_isTier_10 (by decide) ?_
      exact (xe_z hx hb hr hlocks hbase hh hK hX hS (Or.inr rfl) h (Nat.le_of_ble_eq_true rfl) (Nat.le_of_ble_eq_true rfl) dX6_isTier_14)

set_option maxHeartbeats 4000000 in
set_option maxRecDepth 100000 in
theorem mt_X6_setRetention (l : Launch) (G : GG) (base : Nat) {a0 : Nat} {p1 : Int32} {p2 : Int32} {m0 : MM} {Q : Int32 → MM → Prop} (h : wp_X6_setRetention a0 p1 p2 m0 Q) : Met l yX6_setRetention wsX6_setRetention ({ frames := 1, cells := 0, slots := 0, locals := 30 }) (va_Pc [.ref a0, .int p1, .int p2] (SP G base m0)) (va_Qi Q (HB G base) (xA base)) 0 0 (xA base) := by
  refine Met.ofW (cc := cX6_setRetention) (maxL := 4) (ret := (some .int)) (by decide) rfl ?_
  intro p e s m args below meth c s₁ B hml hv
  obtain ⟨rfl, hbase, hh, hK, hX⟩ := hv
  have C0 : BC p s m _ meth c G base RX6 cX6_setRetention 4 (some .int) wsX6_setRetention := ⟨B.exec, B.bytes, B.returns, hml, findClass_of_methodNamed B.named, atoms_spec (ws := wsX6_setRetention) B.pre, B.notSynchronized, hK, hbase, hX⟩
  obtain ⟨hx, hb, hr, -, hown, hts, hlocks, -, -, -⟩ := id C0
  have hS : va_S (xA base) s.heap s.heap [] := va_S.rf
  have hl := lv_entry ([.ref a0, .int p1, .int p2]) (n := 4) (Nat.le_of_ble_eq_true rfl)
  rw [lg_entry_eq]
  generalize (lg_sl ([.ref a0, .int p1, .int p2]) ++ List.replicate (4 - (lg_sl ([.ref a0, .int p1, .int p2])).length) Slot.unset).toArray = ls at hl ⊢
  have hl : lv_has ls 4 [(0, .ref a0), (1, .int p1), (2, .int p2)] := hl
  unfold wp_X6_setRetention at h
  have hL6 : ∀ w ∈ u_ws RX6 TX6 17, w.before _ s = true := fun w h9 => hts w (List.mem_cons_of_mem _ (List.mem_append_right _ (h9)))
  have q2 : (Cond.fieldLink RX6 13 "RollupStoreModel" "retention" "[I").before _ s = true := hts _ (List.mem_cons_of_mem _ (List.mem_append_left _ (List.mem_of_getElem? (i := 2) rfl)))
  have q3 : (Cond.constant RX6 112 (90000)).before _ s = true := hts _ (List.mem_cons_of_mem _ (List.mem_append_left _ (List.mem_of_getElem? (i := 0) rfl)))
  have q4 : (Cond.constant RX6 113 (100000000)).before _ s = true := hts _ (List.mem_cons_of_mem _ (List.mem_append_left _ (List.mem_of_getElem? (i := 1) rfl)))
  refine lv_aload_n hx hb dX6_setRetention_0 rfl (lv_at hl 0 rfl) ?_
  refine lv_iload_n hx hb dX6_setRetention_1 rfl (lv_at hl 1 rfl) ?_
  refine xc_i (va_runS (As := [.int p1]) (rest := [.ref a0]) ⟨hx, hb, hml, hown, hts⟩ (mt_X6_isTier l G base h) (va_cwS 1 hts gX6_setRetention_X6_isTier rfl rfl rfl (by decide +kernel) ⟨Nat.le_of_ble_eq_true rfl, Nat.le_of_ble_eq_true rfl⟩) (xp_S hbase hh hK hX hS) rfl rfl hl.1 rfl (lv_room (Nat.le_of_ble_eq_true rfl)) dX6_setRetention_2 ⟨Nat.le_of_ble_eq_true rfl, Nat.le_of_ble_eq_true rfl⟩) hS (fun r1 m2 H locs h hh hS => ?_)
  refine lv_if_eq (tgt := 34) hx hb dX6_setRetention_5 (by decide) (fun c3 => ?_) (fun c3 => ?_)
  · replace h := h.1 c3
    refine lv_iconst (v := 1) hx hb dX6_setRetention_34 (by decide) ?_
    obtain ⟨g4, h⟩ := h
    refine xc_i (va_runV (As := [.int (1 : Int32)]) (rest := []) ⟨hx, hb, hml, hown, hts⟩ (mt_X6_can l G base h) (cwV 1 hts gX6_setRetention_X6_can rfl rfl rfl (by decide +kernel) ⟨Nat.le_of_ble_eq_true rfl, Nat.le_of_ble_eq_true rfl⟩) (xp_V hbase hh hK hX hS (ci := 6) g4 (by decide) rfl) rfl rfl hl.1 rfl (lv_room (Nat.le_of_ble_eq_true rfl)) dX6_setRetention_35 ⟨Nat.le_of_ble_eq_true rfl, Nat.le_of_ble_eq_true rfl⟩) hS (fun r5 m6 H locs h hh hS => ?_)
    refine lv_if_ne (tgt := 43) hx hb dX6_setRetention_38 (by decide) (fun c7 => ?_) (fun c7 => ?_)
    · replace h := h.1 c7
      refine lv_aload_n hx hb dX6_setRetention_43 rfl (lv_at hl 0 rfl) ?_
      obtain ⟨g8, h⟩ := h
      obtain ⟨b9, eb9, h⟩ := h
      refine xr_getR (ci := 6) (C := RX6) (T := TX6) (N := 17) hx hb hL6 hown hK hh g8 (by decide) rfl 4 124 rfl rfl (by decide) (by decide) q2 (fun _ h9 => h9) eb9 dX6_setRetention_44 ?_
      refine lv_iload_n hx hb dX6_setRetention_47 rfl (lv_at hl 1 rfl) ?_
      obtain ⟨g10, h⟩ := h
      obtain ⟨g11, h⟩ := h
      refine xr_iald hx hb hK hh g10 g11 dX6_setRetention_48 ?_
      refine lv_topi (fun x12 ex12 => ?_)
      replace h := h x12 ex12
      refine lv_istore_n (lv' := [(3, .int x12), (0, .ref a0), (1, .int p1), (2, .int p2)]) hx hb dX6_setRetention_49 rfl hl (by decide) rfl (fun ls hl => ?_)
      refine lv_aload_n hx hb dX6_setRetention_50 rfl (lv_at hl 1 rfl) ?_
      obtain ⟨g13, h⟩ := h
      obtain ⟨b14, eb14, h⟩ := h
      refine xr_getR (ci := 6) (C := RX6) (T := TX6) (N := 17) hx hb hL6 hown hK hh g13 (by decide) rfl 4 124 rfl rfl (by decide) (by decide) q2 (fun _ h9 => h9) eb14 dX6_setRetention_51 ?_
      refine lv_iload_n hx hb dX6_setRetention_54 rfl (lv_at hl 2 rfl) ?_
      refine lv_iload_n hx hb dX6_setRetention_55 rfl (lv_at hl 3 rfl) ?_
      obtain ⟨g15, h⟩ := h
      obtain ⟨g16, h⟩ := h
      refine xr_iast hx hb hK hh g15 hS g16 dX6_setRetention_56 (fun H locs hh hS => ?_)
      obtain ⟨m17, em17⟩ : ∃ z : MM, z = sAI m6 b14 (va_up (mAI m6 b14) p1.toNatClampNeg p2) := ⟨_, rfl⟩
      rw [← em17] at hh
      replace h := h m17 em17
      refine lv_aload_n hx hb dX6_setRetention_57 rfl (lv_at hl 1 rfl) ?_
      obtain ⟨g18, h⟩ := h
      refine xc_v (va_runV (As := []) (rest := []) ⟨hx, hb, hml, hown, hts⟩ (mt_X6_expire l G base h) (cwV 0 hts gX6_setRetention_X6_expire rfl rfl rfl (by decide +kernel) ⟨Nat.le_of_ble_eq_true rfl, Nat.le_of_ble_eq_true rfl⟩) (xp_V hbase hh hK hX hS (ci := 6) g18 (by decide) rfl) rfl rfl hl.1 rfl (lv_room (Nat.le_of_ble_eq_true rfl)) dX6_setRetention_58 ⟨Nat.le_of_ble_eq_true rfl, Nat.le_of_ble_eq_true rfl⟩) hS (fun m20 H locs h hh hS => ?_)
      refine lv_iload_n hx hb dX6_setRetention_61 rfl (lv_at hl 0 rfl) ?_
      exact (xe_i hx hb hr hlocks hbase hh hK hX hS h (Nat.le_of_ble_eq_true rfl) (Nat.le_of_ble_eq_true rfl) dX6_setRetention_62)
    · replace h := h.2 c7
      refine lv_iconst (v := 0) hx hb dX6_setRetention_41 (by decide) ?_
      exact (xe_i hx hb hr hlocks hbase hh hK hX hS h (Nat.le_of_ble_eq_true rfl) (Nat.le_of_ble_eq_true rfl) dX6_setRetention_42)
  · replace h := h.2 c3
    refine lv_iload_n hx hb dX6_setRetention_8 rfl (lv_at hl 2 rfl) ?_
    refine lv_iload_n hx hb dX6_setRetention_9 rfl (lv_at hl 1 rfl) ?_
    refine lv_iconst (v := 1) hx hb dX6_setRetention_10 (by decide) ?_
    refine lv_icmp_gt (tgt := 20) hx hb dX6_setRetention_11 (by decide) (fun c21 => ?_) (fun c21 => ?_)
    · replace h := h.1 c21
      refine lv_ldc hx hb hown q3 dX6_setRetention_20 ?_
      refine lv_ldc hx hb hown q4 dX6_setRetention_22 ?_
      refine xc_i (va_runS (As := [.int p2, .int (90000 : Int32), .int (100000000 : Int32)]) (rest := [.ref a0]) ⟨hx, hb, hml, hown, hts⟩ (mt_X6_isIn l G base h) (va_cwS 3 hts gX6_setRetention_X6_isIn rfl rfl rfl (by decide +kernel) ⟨Nat.le_of_ble_eq_true rfl, Nat.le_of_ble_eq_true rfl⟩) (xp_S hbase hh hK hX hS) rfl rfl hl.1 rfl (lv_room (Nat.le_of_ble_eq_true rfl)) dX6_setRetention_24 ⟨Nat.le_of_ble_eq_true rfl, Nat.le_of_ble_eq_true rfl⟩) hS (fun r22 m23 H locs h hh hS => ?_)
      refine lv_if_eq (tgt := 34) hx hb dX6_setRetention_27 (by decide) (fun c24 => ?_) (fun c24 => ?_)
      · replace h := h.1 c24
        refine lv_iconst (v := 1) hx hb dX6_setRetention_34 (by decide) ?_
        obtain ⟨g25, h⟩ := h
        refine xc_i (va_runV (As := [.int (1 : Int32)]) (rest := []) ⟨hx, hb, hml, hown, hts⟩ (mt_X6_can l G base h) (cwV 1 hts gX6_setRetention_X6_can rfl rfl rfl (by decide +kernel) ⟨Nat.le_of_ble_eq_true rfl, Nat.le_of_ble_eq_true rfl⟩) (xp_V hbase hh hK hX hS (ci := 6) g25 (by decide) rfl) rfl rfl hl.1 rfl (lv_room (Nat.le_of_ble_eq_true rfl)) dX6_setRetention_35 ⟨Nat.le_of_ble_eq_true rfl, Nat.le_of_ble_eq_true rfl⟩) hS (fun r26 m27 H locs h hh hS => ?_)
        refine lv_if_ne (tgt := 43) hx hb dX6_setRetention_38 (by decide) (fun c28 => ?_) (fun c28 => ?_)
        · replace h := h.1 c28
          refine lv_aload_n hx hb dX6_setRetention_43 rfl (lv_at hl 0 rfl) ?_
          obtain ⟨g29, h⟩ := h
          obtain ⟨b30, eb30, h⟩ := h
          refine xr_getR (ci := 6) (C := RX6) (T := TX6) (N := 17) hx hb hL6 hown hK hh g29 (by decide) rfl 4 124 rfl rfl (by decide) (by decide) q2 (fun _ h9 => h9) eb30 dX6_setRetention_44 ?_
          refine lv_iload_n hx hb dX6_setRetention_47 rfl (lv_at hl 1 rfl) ?_
          obtain ⟨g31, h⟩ := h
          obtain ⟨g32, h⟩ := h
          refine xr_iald hx hb hK hh g31 g32 dX6_setRetention_48 ?_
          refine lv_topi (fun x33 ex33 => ?_)
          replace h := h x33 ex33
          refine lv_istore_n (lv' := [(3, .int x33), (0, .ref a0), (1, .int p1), (2, .int p2)]) hx hb dX6_setRetention_49 rfl hl (by decide) rfl (fun ls hl => ?_)
          refine lv_aload_n hx hb dX6_setRetention_50 rfl (lv_at hl 1 rfl) ?_
          obtain ⟨g34, h⟩ := h
          obtain ⟨b35, eb35, h⟩ := h
          refine xr_getR (ci := 6) (C := RX6) (T := TX6) (N := 17) hx hb hL6 hown hK hh g34 (by decide) rfl 4 124 rfl rfl (by decide) (by decide) q2 (fun _ h9 => h9) eb35 dX6_setRetention_51 ?_
          refine lv_iload_n hx hb dX6_setRetention_54 rfl (lv_at hl 2 rfl) ?_
          refine lv_iload_n hx hb dX6_setRetention_55 rfl (lv_at hl 3 rfl) ?_
          obtain ⟨g36, h⟩ := h
          obtain ⟨g37, h⟩ := h
          refine xr_iast hx hb hK hh g36 hS g37 dX6_setRetention_56 (fun H locs hh hS => ?_)
          obtain ⟨m38, em38⟩ : ∃ z : MM, z = sAI m27 b35 (va_up (mAI m27 b35) p1.toNatClampNeg p2) := ⟨_, rfl⟩
          rw [← em38] at hh
          replace h := h m38 em38
          refine lv_aload_n hx hb dX6_setRetention_57 rfl (lv_at hl 1 rfl) ?_
          obtain ⟨g39, h⟩ := h
          refine xc_v (va_runV (As := []) (rest := []) ⟨hx, hb, hml, hown, hts⟩ (mt_X6_expire l G base h) (cwV 0 hts gX6_setRetention_X6_expire rfl rfl rfl (by decide +kernel) ⟨Nat.le_of_ble_eq_true rfl, Nat.le_of_ble_eq_true rfl⟩) (xp_V hbase hh hK hX hS (ci := 6) g39 (by decide) rfl) rfl rfl hl.1 rfl (lv_room (Nat.le_of_ble_eq_true rfl)) dX6_setRetention_58 ⟨Nat.le_of_ble_eq_true rfl, Nat.le_of_ble_eq_true rfl⟩) hS (fun m41 H locs h hh hS => ?_)
          refine lv_iload_n hx hb dX6_setRetention_61 rfl (lv_at hl 0 rfl) ?_
          exact (xe_i hx hb hr hlocks hbase hh hK hX hS h (Nat.le_of_ble_eq_true rfl) (Nat.le_of_ble_eq_true rfl) dX6_setRetention_62)
        · replace h := h.2 c28
          refine lv_iconst (v := 0) hx hb dX6_setRetention_41 (by decide) ?_
          exact (xe_i hx hb hr hlocks hbase hh hK hX hS h (Nat.le_of_ble_eq_true rfl) (Nat.le_of_ble_eq_true rfl) dX6_setRetention_42)
      · replace h := h.2 c24
        refine lv_iconst (v := 0) hx hb dX6_setRetention_30 (by decide) ?_
        refine lv_goto (tgt := 35) hx hb dX6_setRetention_31 (by decide) ?_
        obtain ⟨g42, h⟩ := h
        refine xc_i (va_runV (As := [.int (0 : Int32)]) (rest := []) ⟨hx, hb, hml, hown, hts⟩ (mt_X6_can l G base h) (cwV 1 hts gX6_setRetention_X6_can rfl rfl rfl (by decide +kernel) ⟨Nat.le_of_ble_eq_true rfl, Nat.le_of_ble_eq_true rfl⟩) (xp_V hbase hh hK hX hS (ci := 6) g42 (by decide) rfl) rfl rfl hl.1 rfl (lv_room (Nat.le_of_ble_eq_true rfl)) dX6_setRetention_35 ⟨Nat.le_of_ble_eq_true rfl, Nat.le_of_ble_eq_true rfl⟩) hS (fun r43 m44 H locs h hh hS => ?_)
        refine lv_if_ne (tgt := 43) hx hb dX6_setRetention_38 (by decide) (fun c45 => ?_) (fun c45 => ?_)
        · replace h := h.1 c45
          refine lv_aload_n hx hb dX6_setRetention_43 rfl (lv_at hl 0 rfl) ?_
          obtain ⟨g46, h⟩ := h
          obtain ⟨b47, eb47, h⟩ := h
          refine xr_getR (ci := 6) (C := RX6) (T := TX6) (N := 17) hx hb hL6 hown hK hh g46 (by decide) rfl 4 124 rfl rfl (by decide) (by decide) q2 (fun _ h9 => h9) eb47 dX6_setRetention_44 ?_
          refine lv_iload_n hx hb dX6_setRetention_47 rfl (lv_at hl 1 rfl) ?_
          obtain ⟨g48, h⟩ := h
          obtain ⟨g49, h⟩ := h
          refine xr_iald hx hb hK hh g48 g49 dX6_setRetention_48 ?_
          refine lv_topi (fun x50 ex50 => ?_)
          replace h := h x50 ex50
          refine lv_istore_n (lv' := [(3, .int x50), (0, .ref a0), (1, .int p1), (2, .int p2)]) hx hb dX6_setRetention_49 rfl hl (by decide) rfl (fun ls hl => ?_)
          refine lv_aload_n hx hb dX6_setRetention_50 rfl (lv_at hl 1 rfl) ?_
          obtain ⟨g51, h⟩ := h
          obtain ⟨b52, eb52, h⟩ := h
          refine xr_getR (ci := 6) (C := RX6) (T := TX6) (N := 17) hx hb hL6 hown hK hh g51 (by decide) rfl 4 124 rfl rfl (by decide) (by decide) q2 (fun _ h9 => h9) eb52 dX6_setRetention_51 ?_
          refine lv_iload_n hx hb dX6_setRetention_54 rfl (lv_at hl 2 rfl) ?_
          refine lv_iload_n hx hb dX6_setRetention_55 rfl (lv_at hl 3 rfl) ?_
          obtain ⟨g53, h⟩ := h
          obtain ⟨g54, h⟩ := h
          refine xr_iast hx hb hK hh g53 hS g54 dX6_setRetention_56 (fun H locs hh hS => ?_)
          obtain ⟨m55, em55⟩ : ∃ z : MM, z = sAI m44 b52 (va_up (mAI m44 b52) p1.toNatClampNeg p2) := ⟨_, rfl⟩
          rw [← em55] at hh
          replace h := h m55 em55
          refine lv_aload_n hx hb dX6_setRetention_57 rfl (lv_at hl 1 rfl) ?_
          obtain ⟨g56, h⟩ := h
          refine xc_v (va_runV (As := []) (rest := []) ⟨hx, hb, hml, hown, hts⟩ (mt_X6_expire l G base h) (cwV 0 hts gX6_setRetention_X6_expire rfl rfl rfl (by decide +kernel) ⟨Nat.le_of_ble_eq_true rfl, Nat.le_of_ble_eq_true rfl⟩) (xp_V hbase hh hK hX hS (ci := 6) g56 (by decide) rfl) rfl rfl hl.1 rfl (lv_room (Nat.le_of_ble_eq_true rfl)) dX6_setRetention_58 ⟨Nat.le_of_ble_eq_true rfl, Nat.le_of_ble_eq_true rfl⟩) hS (fun m58 H locs h hh hS => ?_)
          refine lv_iload_n hx hb dX6_setRetention_61 rfl (lv_at hl 0 rfl) ?_
          exact (xe_i hx hb hr hlocks hbase hh hK hX hS h (Nat.le_of_ble_eq_true rfl) (Nat.le_of_ble_eq_true rfl) dX6_setRetention_62)
        · replace h := h.2 c45
          refine lv_iconst (v := 0) hx hb dX6_setRetention_41 (by decide) ?_
          exact (xe_i hx hb hr hlocks hbase hh hK hX hS h (Nat.le_of_ble_eq_true rfl) (Nat.le_of_ble_eq_true rfl) dX6_setRetention_42)
    · replace h := h.2 c21
      refine lv_sipush (v := 7200) hx hb dX6_setRetention_14 (by decide) ?_
      refine lv_goto (tgt := 22) hx hb dX6_setRetention_17 (by decide) ?_
      refine lv_ldc hx hb hown q4 dX6_setRetention_22 ?_
      refine xc_i (va_runS (As := [.int p2, .int (7200 : Int32), .int (100000000 : Int32)]) (rest := [.ref a0]) ⟨hx, hb, hml, hown, hts⟩ (mt_X6_isIn l G base h) (va_cwS 3 hts gX6_setRetention_X6_isIn rfl rfl rfl (by decide +kernel) ⟨Nat.le_of_ble_eq_true rfl, Nat.le_of_ble_eq_true rfl⟩) (xp_S hbase hh hK hX hS) rfl rfl hl.1 rfl (lv_room (Nat.le_of_ble_eq_true rfl)) dX6_setRetention_24 ⟨Nat.le_of_ble_eq_true rfl, Nat.le_of_ble_eq_true rfl⟩) hS (fun r59 m60 H locs h hh hS => ?_)
      refine lv_if_eq (tgt := 34) hx hb dX6_setRetention_27 (by decide) (fun c61 => ?_) (fun c61 => ?_)
      · replace h := h.1 c61
        refine lv_iconst (v := 1) hx hb dX6_setRetention_34 (by decide) ?_
        obtain ⟨g62, h⟩ := h
        refine xc_i (va_runV (As := [.int (1 : Int32)]) (rest := []) ⟨hx, hb, hml, hown, hts⟩ (mt_X6_can l G base h) (cwV 1 hts gX6_setRetention_X6_can rfl rfl rfl (by decide +kernel) ⟨Nat.le_of_ble_eq_true rfl, Nat.le_of_ble_eq_true rfl⟩) (xp_V hbase hh hK hX hS (ci := 6) g62 (by decide) rfl) rfl rfl hl.1 rfl (lv_room (Nat.le_of_ble_eq_true rfl)) dX6_setRetention_35 ⟨Nat.le_of_ble_eq_true rfl, Nat.le_of_ble_eq_true rfl⟩) hS (fun r63 m64 H locs h hh hS => ?_)
        refine lv_if_ne (tgt := 43) hx hb dX6_setRetention_38 (by decide) (fun c65 => ?_) (fun c65 => ?_)
        · replace h := h.1 c65
          refine lv_aload_n hx hb dX6_setRetention_43 rfl (lv_at hl 0 rfl) ?_
          obtain ⟨g66, h⟩ := h
          obtain ⟨b67, eb67, h⟩ := h
          refine xr_getR (ci := 6) (C := RX6) (T := TX6) (N := 17) hx hb hL6 hown hK hh g66 (by decide) rfl 4 124 rfl rfl (by decide) (by decide) q2 (fun _ h9 => h9) eb67 dX6_setRetention_44 ?_
          refine lv_iload_n hx hb dX6_setRetention_47 rfl (lv_at hl 1 rfl) ?_
          obtain ⟨g68, h⟩ := h
          obtain ⟨g69, h⟩ := h
          refine xr_iald hx hb hK hh g68 g69 dX6_setRetention_48 ?_
          refine lv_topi (fun x70 ex70 => ?_)
          replace h := h x70 ex70
          refine lv_istore_n (lv' := [(3, .int x70), (0, .ref a0), (1, .int p1), (2, .int p2)]) hx hb dX6_setRetention_49 rfl hl (by decide) rfl (fun ls hl => ?_)
          refine lv_aload_n hx hb dX6_setRetention_50 rfl (lv_at hl 1 rfl) ?_
          obtain ⟨g71, h⟩ := h
          obtain ⟨b72, eb72, h⟩ := h
          refine xr_getR (ci := 6) (C := RX6) (T := TX6) (N := 17) hx hb hL6 hown hK hh g71 (by decide) rfl 4 124 rfl rfl (by decide) (by decide) q2 (fun _ h9 => h9) eb72 dX6_setRetention_51 ?_
          refine lv_iload_n hx hb dX6_setRetention_54 rfl (lv_at hl 2 rfl) ?_
          refine lv_iload_n hx hb dX6_setRetention_55 rfl (lv_at hl 3 rfl) ?_
          obtain ⟨g73, h⟩ := h
          obtain ⟨g74, h⟩ := h
          refine xr_iast hx hb hK hh g73 hS g74 dX6_setRetention_56 (fun H locs hh hS => ?_)
          obtain ⟨m75, em75⟩ : ∃ z : MM, z = sAI m64 b72 (va_up (mAI m64 b72) p1.toNatClampNeg p2) := ⟨_, rfl⟩
          rw [← em75] at hh
          replace h := h m75 em75
          refine lv_aload_n hx hb dX6_setRetention_57 rfl (lv_at hl 1 rfl) ?_
          obtain ⟨g76, h⟩ := h
          refine xc_v (va_runV (As := []) (rest := []) ⟨hx, hb, hml, hown, hts⟩ (mt_X6_expire l G base h) (cwV 0 hts gX6_setRetention_X6_expire rfl rfl rfl (by decide +kernel) ⟨Nat.le_of_ble_eq_true rfl, Nat.le_of_ble_eq_true rfl⟩) (xp_V hbase hh hK hX hS (ci := 6) g76 (by decide) rfl) rfl rfl hl.1 rfl (lv_room (Nat.le_of_ble_eq_true rfl)) dX6_setRetention_58 ⟨Nat.le_of_ble_eq_true rfl, Nat.le_of_ble_eq_true rfl⟩) hS (fun m78 H locs h hh hS => ?_)
          refine lv_iload_n hx hb dX6_setRetention_61 rfl (lv_at hl 0 rfl) ?_
          exact (xe_i hx hb hr hlocks hbase hh hK hX hS h (Nat.le_of_ble_eq_true rfl) (Nat.le_of_ble_eq_true rfl) dX6_setRetention_62)
        · replace h := h.2 c65
          refine lv_iconst (v := 0) hx hb dX6_setRetention_41 (by decide) ?_
          exact (xe_i hx hb hr hlocks hbase hh hK hX hS h (Nat.le_of_ble_eq_true rfl) (Nat.le_of_ble_eq_true rfl) dX6_setRetention_42)
      · replace h := h.2 c61
        refine lv_iconst (v := 0) hx hb dX6_setRetention_30 (by decide) ?_
        refine lv_goto (tgt := 35) hx hb dX6_setRetention_31 (by decide) ?_
        obtain ⟨g79, h⟩ := h
        refine xc_i (va_runV (As := [.int (0 : Int32)]) (rest := []) ⟨hx, hb, hml, hown, hts⟩ (mt_X6_can l G base h) (cwV 1 hts gX6_setRetention_X6_can rfl rfl rfl (by decide +kernel) ⟨Nat.le_of_ble_eq_true rfl, Nat.le_of_ble_eq_true rfl⟩) (xp_V hbase hh hK hX hS (ci := 6) g79 (by decide) rfl) rfl rfl hl.1 rfl (lv_room (Nat.le_of_ble_eq_true rfl)) dX6_setRetention_35 ⟨Nat.le_of_ble_eq_true rfl, Nat.le_of_ble_eq_true rfl⟩) hS (fun r80 m81 H locs h hh hS => ?_)
        refine lv_if_ne (tgt := 43) hx hb dX6_setRetention_38 (by decide) (fun c82 => ?_) (fun c82 => ?_)
        · replace h := h.1 c82
          refine lv_aload_n hx hb dX6_setRetention_43 rfl (lv_at hl 0 rfl) ?_
          obtain ⟨g83, h⟩ := h
          obtain ⟨b84, eb84, h⟩ := h
          refine xr_getR (ci := 6) (C := RX6) (T := TX6) (N := 17) hx hb hL6 hown hK hh g83 (by decide) rfl 4 124 rfl rfl (by decide) (by decide) q2 (fun _ h9 => h9) eb84 dX6_setRetention_44 ?_
          refine lv_iload_n hx hb dX6_setRetention_47 rfl (lv_at hl 1 rfl) ?_
          obtain ⟨g85, h⟩ := h
          obtain ⟨g86, h⟩ := h
          refine xr_iald hx hb hK hh g85 g86 dX6_setRetention_48 ?_
          refine lv_topi (fun x87 ex87 => ?_)
          replace h := h x87 ex87
          refine lv_istore_n (lv' := [(3, .int x87), (0, .ref a0), (1, .int p1), (2, .int p2)]) hx hb dX6_setRetention_49 rfl hl (by decide) rfl (fun ls hl => ?_)
          refine lv_aload_n hx hb dX6_setRetention_50 rfl (lv_at hl 1 rfl) ?_
          obtain ⟨g88, h⟩ := h
          obtain ⟨b89, eb89, h⟩ := h
          refine xr_getR (ci := 6) (C := RX6) (T := TX6) (N := 17) hx hb hL6 hown hK hh g88 (by decide) rfl 4 124 rfl rfl (by decide) (by decide) q2 (fun _ h9 => h9) eb89 dX6_setRetention_51 ?_
          refine lv_iload_n hx hb dX6_setRetention_54 rfl (lv_at hl 2 rfl) ?_
          refine lv_iload_n hx hb dX6_setRetention_55 rfl (lv_at hl 3 rfl) ?_
          obtain ⟨g90, h⟩ := h
          obtain ⟨g91, h⟩ := h
          refine xr_iast hx hb hK hh g90 hS g91 dX6_setRetention_56 (fun H locs hh hS => ?_)
          obtain ⟨m92, em92⟩ : ∃ z : MM, z = sAI m81 b89 (va_up (mAI m81 b89) p1.toNatClampNeg p2) := ⟨_, rfl⟩
          rw [← em92] at hh
          replace h := h m92 em92
          refine lv_aload_n hx hb dX6_setRetention_57 rfl (lv_at hl 1 rfl) ?_
          obtain ⟨g93, h⟩ := h
          refine xc_v (va_runV (As := []) (rest := []) ⟨hx, hb, hml, hown, hts⟩ (mt_X6_expire l G base h) (cwV 0 hts gX6_setRetention_X6_expire rfl rfl rfl (by decide +kernel) ⟨Nat.le_of_ble_eq_true rfl, Nat.le_of_ble_eq_true rfl⟩) (xp_V hbase hh hK hX hS (ci := 6) g93 (by decide) rfl) rfl rfl hl.1 rfl (lv_room (Nat.le_of_ble_eq_true rfl)) dX6_setRetention_58 ⟨Nat.le_of_ble_eq_true rfl, Nat.le_of_ble_eq_true rfl⟩) hS (fun m95 H locs h hh hS => ?_)
          refine lv_iload_n hx hb dX6_setRetention_61 rfl (lv_at hl 0 rfl) ?_
          exact (xe_i hx hb hr hlocks hbase hh hK hX hS h (Nat.le_of_ble_eq_true rfl) (Nat.le_of_ble_eq_true rfl) dX6_setRetention_62)
        · replace h := h.2 c82
          refine lv_iconst (v := 0) hx hb dX6_setRetention_41 (by decide) ?_
          exact (xe_i hx hb hr hlocks hbase hh hK hX hS h (Nat.le_of_ble_eq_true rfl) (Nat.le_of_ble_eq_true rfl) dX6_setRetention_42)

set_option maxHeartbeats 4000000 in
set_option maxRecDepth 100000 in
theorem mt_X6_clock (l : Launch) (G : GG) (base : Nat) {a0 : Nat} {m0 : MM} {Q : Int32 → MM → Prop} (h : wp_X6_clock a0 m0 Q) : Met l yX6_clock wsX6_clock ({ frames := 0, cells := 0, slots := 0, locals := 8 }) (va_Pc [.ref a0] (SP G base m0)) (va_Qi Q (HB G base) (xA base)) 0 0 (xA base) := by
  refine Met.ofW (cc := cX6_clock) (maxL := 1) (ret := (some .int)) (by decide) rfl ?_
  intro p e s m args below meth c s₁ B hml hv
  obtain ⟨rfl, hbase, hh, hK, hX⟩ := hv
  have C0 : BC p s m _ meth c G base RX6 cX6_clock 1 (some .int) wsX6_clock := ⟨B.exec, B.bytes, B.returns, hml, findClass_of_methodNamed B.named, atoms_spec (ws := wsX6_clock) B.pre, B.notSynchronized, hK, hbase, hX⟩
  obtain ⟨hx, hb, hr, -, hown, hts, hlocks, -, -, -⟩ := id C0
  have hS : va_S (xA base) s.heap s.heap [] := va_S.rf
  have hl := lv_entry ([.ref a0]) (n := 1) (Nat.le_of_ble_eq_true rfl)
  rw [lg_entry_eq]
  generalize (lg_sl ([.ref a0]) ++ List.replicate (1 - (lg_sl ([.ref a0])).length) Slot.unset).toArray = ls at hl ⊢
  have hl : lv_has ls 1 [(0, .ref a0)] := hl
  unfold wp_X6_clock at h
  have hL6 : ∀ w ∈ u_ws RX6 TX6 17, w.before _ s = true := fun w h9 => hts w (List.mem_cons_of_mem _ (List.mem_append_right _ (h9)))
  have q2 : (Cond.fieldLink RX6 35 "RollupStoreModel" "thrown" "I").before _ s = true := hts _ (List.mem_cons_of_mem _ (List.mem_append_left _ (List.mem_of_getElem? (i := 0) rfl)))
  have q3 : (Cond.fieldLink RX6 62 "RollupStoreModel" "clock" "I").before _ s = true := hts _ (List.mem_cons_of_mem _ (List.mem_append_left _ (List.mem_of_getElem? (i := 1) rfl)))
  refine lv_aload_n hx hb dX6_clock_0 rfl (lv_at hl 0 rfl) ?_
  refine lv_iconst (v := 0) hx hb dX6_clock_1 (by decide) ?_
  obtain ⟨g1, h⟩ := h
  refine xr_putI (ci := 6) (C := RX6) (T := TX6) (N := 17) hx hb hL6 hown hK hh g1 (by decide) rfl 16 136 rfl rfl (by decide) (by decide) q2 (fun _ h9 => h9) tyX6 tyX6_ok nmX6 rfl rfl rfl hS dX6_clock_2 (fun H locs hh hS => ?_)
  obtain ⟨m2, em2⟩ : ∃ z : MM, z = sI m0 136 a0 (0 : Int32) := ⟨_, rfl⟩
  rw [← em2] at hh
  replace h := h m2 em2
  refine lv_aload_n hx hb dX6_clock_5 rfl (lv_at hl 0 rfl) ?_
  obtain ⟨g3, h⟩ := h
  refine xr_getI (ci := 6) (C := RX6) (T := TX6) (N := 17) hx hb hL6 hown hK hh g3 (by decide) rfl 0 120 rfl rfl (by decide) (by decide) q3 (fun _ h9 => h9) dX6_clock_6 ?_
  exact (xe_i hx hb hr hlocks hbase hh hK hX hS h (Nat.le_of_ble_eq_true rfl) (Nat.le_of_ble_eq_true rfl) dX6_clock_9)

set_option maxHeartbeats 4000000 in
set_option maxRecDepth 100000 in
theorem mt_X6_series (l : Launch) (G : GG) (base : Nat) {a0 : Nat} {m0 : MM} {Q : Int32 → MM → Prop} (h : wp_X6_series a0 m0 Q) : Met l yX6_series wsX6_series ({ frames := 0, cells := 0, slots := 0, locals := 8 }) (va_Pc [.ref a0] (SP G base m0)) (va_Qi Q (HB G base) (xA base)) 0 0 (xA base) := by
  refine Met.ofW (cc := cX6_series) (maxL := 1) (ret := (some .int)) (by decide) rfl ?_
  intro p e s m args below meth c s₁ B hml hv
  obtain ⟨rfl, hbase, hh, hK, hX⟩ := hv
  have C0 : BC p s m _ meth c G base RX6 cX6_series 1 (some .int) wsX6_series := ⟨B.exec, B.bytes, B.returns, hml, findClass_of_methodNamed B.named, atoms_spec (ws := wsX6_series) B.pre, B.notSynchronized, hK, hbase, hX⟩
  obtain ⟨hx, hb, hr, -, hown, hts, hlocks, -, -, -⟩ := id C0
  have hS : va_S (xA base) s.heap s.heap [] := va_S.rf
  have hl := lv_entry ([.ref a0]) (n := 1) (Nat.le_of_ble_eq_true rfl)
  rw [lg_entry_eq]
  generalize (lg_sl ([.ref a0]) ++ List.replicate (1 - (lg_sl ([.ref a0])).length) Slot.unset).toArray = ls at hl ⊢
  have hl : lv_has ls 1 [(0, .ref a0)] := hl
  unfold wp_X6_series at h
  have hL6 : ∀ w ∈ u_ws RX6 TX6 17, w.before _ s = true := fun w h9 => hts w (List.mem_cons_of_mem _ (List.mem_append_right _ (h9)))
  have q2 : (Cond.fieldLink RX6 35 "RollupStoreModel" "thrown" "I").before _ s = true := hts _ (List.mem_cons_of_mem _ (List.mem_append_left _ (List.mem_of_getElem? (i := 0) rfl)))
  have q3 : (Cond.fieldLink RX6 39 "RollupStoreModel" "series" "I").before _ s = true := hts _ (List.mem_cons_of_mem _ (List.mem_append_left _ (List.mem_of_getElem? (i := 1) rfl)))
  refine lv_aload_n hx hb dX6_series_0 rfl (lv_at hl 0 rfl) ?_
  refine lv_iconst (v := 0) hx hb dX6_series_1 (by decide) ?_
  obtain ⟨g1, h⟩ := h
  refine xr_putI (ci := 6) (C := RX6) (T := TX6) (N := 17) hx hb hL6 hown hK hh g1 (by decide) rfl 16 136 rfl rfl (by decide) (by decide) q2 (fun _ h9 => h9) tyX6 tyX6_ok nmX6 rfl rfl rfl hS dX6_series_2 (fun H locs hh hS => ?_)
  obtain ⟨m2, em2⟩ : ∃ z : MM, z = sI m0 136 a0 (0 : Int32) := ⟨_, rfl⟩
  rw [← em2] at hh
  replace h := h m2 em2
  refine lv_aload_n hx hb dX6_series_5 rfl (lv_at hl 0 rfl) ?_
  obtain ⟨g3, h⟩ := h
  refine xr_getI (ci := 6) (C := RX6) (T := TX6) (N := 17) hx hb hL6 hown hK hh g3 (by decide) rfl 1 121 rfl rfl (by decide) (by decide) q3 (fun _ h9 => h9) dX6_series_6 ?_
  exact (xe_i hx hb hr hlocks hbase hh hK hX hS h (Nat.le_of_ble_eq_true rfl) (Nat.le_of_ble_eq_true rfl) dX6_series_9)

set_option maxHeartbeats 4000000 in
set_option maxRecDepth 100000 in
theorem mt_X6_horizon (l : Launch) (G : GG) (base : Nat) {a0 : Nat} {p1 : Int32} {m0 : MM} {Q : Int32 → MM → Prop} (h : wp_X6_horizon a0 p1 m0 Q) : Met l yX6_horizon wsX6_horizon ({ frames := 1, cells := 0, slots := 0, locals := 29 }) (va_Pc [.ref a0, .int p1] (SP G base m0)) (va_Qi Q (HB G base) (xA base)) 0 0 (xA base) := by
  refine Met.ofW (cc := cX6_horizon) (maxL := 2) (ret := (some .int)) (by decide) rfl ?_
  intro p e s m args below meth c s₁ B hml hv
  obtain ⟨rfl, hbase, hh, hK, hX⟩ := hv
  have C0 : BC p s m _ meth c G base RX6 cX6_horizon 2 (some .int) wsX6_horizon := ⟨B.exec, B.bytes, B.returns, hml, findClass_of_methodNamed B.named, atoms_spec (ws := wsX6_horizon) B.pre, B.notSynchronized, hK, hbase, hX⟩
  obtain ⟨hx, hb, hr, -, hown, hts, hlocks, -, -, -⟩ := id C0
  have hS : va_S (xA base) s.heap s.heap [] := va_S.rf
  have hl := lv_entry ([.ref a0, .int p1]) (n := 2) (Nat.le_of_ble_eq_true rfl)
  rw [lg_entry_eq]
  generalize (lg_sl ([.ref a0, .int p1]) ++ List.replicate (2 - (lg_sl ([.ref a0, .int p1])).length) Slot.unset).toArray = ls at hl ⊢
  have hl : lv_has ls 2 [(0, .ref a0), (1, .int p1)] := hl
  unfold wp_X6_horizon at h
  have hL6 : ∀ w ∈ u_ws RX6 TX6 17, w.before _ s = true := fun w h9 => hts w (List.mem_cons_of_mem _ (List.mem_append_right _ (h9)))
  have q2 : (Cond.fieldLink RX6 16 "RollupStoreModel" "horizon" "[I").before _ s = true := hts _ (List.mem_cons_of_mem _ (List.mem_append_left _ (List.mem_of_getElem? (i := 0) rfl)))
  refine lv_aload_n hx hb dX6_horizon_0 rfl (lv_at hl 0 rfl) ?_
  refine lv_iload_n hx hb dX6_horizon_1 rfl (lv_at hl 1 rfl) ?_
  refine xc_i (va_runS (As := [.int p1]) (rest := [.ref a0]) ⟨hx, hb, hml, hown, hts⟩ (mt_X6_isTier l G base h) (va_cwS 1 hts gX6_horizon_X6_isTier rfl rfl rfl (by decide +kernel) ⟨Nat.le_of_ble_eq_true rfl, Nat.le_of_ble_eq_true rfl⟩) (xp_S hbase hh hK hX hS) rfl rfl hl.1 rfl (lv_room (Nat.le_of_ble_eq_true rfl)) dX6_horizon_2 ⟨Nat.le_of_ble_eq_true rfl, Nat.le_of_ble_eq_true rfl⟩) hS (fun r1 m2 H locs h hh hS => ?_)
  refine lv_if_eq (tgt := 12) hx hb dX6_horizon_5 (by decide) (fun c3 => ?_) (fun c3 => ?_)
  · replace h := h.1 c3
    refine lv_iconst (v := 1) hx hb dX6_horizon_12 (by decide) ?_
    obtain ⟨g4, h⟩ := h
    refine xc_i (va_runV (As := [.int (1 : Int32)]) (rest := []) ⟨hx, hb, hml, hown, hts⟩ (mt_X6_can l G base h) (cwV 1 hts gX6_horizon_X6_can rfl rfl rfl (by decide +kernel) ⟨Nat.le_of_ble_eq_true rfl, Nat.le_of_ble_eq_true rfl⟩) (xp_V hbase hh hK hX hS (ci := 6) g4 (by decide) rfl) rfl rfl hl.1 rfl (lv_room (Nat.le_of_ble_eq_true rfl)) dX6_horizon_13 ⟨Nat.le_of_ble_eq_true rfl, Nat.le_of_ble_eq_true rfl⟩) hS (fun r5 m6 H locs h hh hS => ?_)
    refine lv_if_eq (tgt := 28) hx hb dX6_horizon_16 (by decide) (fun c7 => ?_) (fun c7 => ?_)
    · replace h := h.1 c7
      refine lv_iconst (v := 0) hx hb dX6_horizon_28 (by decide) ?_
      exact (xe_i hx hb hr hlocks hbase hh hK hX hS h (Nat.le_of_ble_eq_true rfl) (Nat.le_of_ble_eq_true rfl) dX6_horizon_29)
    · replace h := h.2 c7
      refine lv_aload_n hx hb dX6_horizon_19 rfl (lv_at hl 0 rfl) ?_
      obtain ⟨g8, h⟩ := h
      obtain ⟨b9, eb9, h⟩ := h
      refine xr_getR (ci := 6) (C := RX6) (T := TX6) (N := 17) hx hb hL6 hown hK hh g8 (by decide) rfl 5 125 rfl rfl (by decide) (by decide) q2 (fun _ h9 => h9) eb9 dX6_horizon_20 ?_
      refine lv_iload_n hx hb dX6_horizon_23 rfl (lv_at hl 1 rfl) ?_
      obtain ⟨g10, h⟩ := h
      obtain ⟨g11, h⟩ := h
      refine xr_iald hx hb hK hh g10 g11 dX6_horizon_24 ?_
      refine lv_goto (tgt := 29) hx hb dX6_horizon_25 (by decide) ?_
      exact (xe_i hx hb hr hlocks hbase hh hK hX hS h (Nat.le_of_ble_eq_true rfl) (Nat.le_of_ble_eq_true rfl) dX6_horizon_29)
  · replace h := h.2 c3
    refine lv_iconst (v := 0) hx hb dX6_horizon_8 (by decide) ?_
    refine lv_goto (tgt := 13) hx hb dX6_horizon_9 (by decide) ?_
    obtain ⟨g12, h⟩ := h
    refine xc_i (va_runV (As := [.int (0 : Int32)]) (rest := []) ⟨hx, hb, hml, hown, hts⟩ (mt_X6_can l G base h) (cwV 1 hts gX6_horizon_X6_can rfl rfl rfl (by decide +kernel) ⟨Nat.le_of_ble_eq_true rfl, Nat.le_of_ble_eq_true rfl⟩) (xp_V hbase hh hK hX hS (ci := 6) g12 (by decide) rfl) rfl rfl hl.1 rfl (lv_room (Nat.le_of_ble_eq_true rfl)) dX6_horizon_13 ⟨Nat.le_of_ble_eq_true rfl, Nat.le_of_ble_eq_true rfl⟩) hS (fun r13 m14 H locs h hh hS => ?_)
    refine lv_if_eq (tgt := 28) hx hb dX6_horizon_16 (by decide) (fun c15 => ?_) (fun c15 => ?_)
    · replace h := h.1 c15
      refine lv_iconst (v := 0) hx hb dX6_horizon_28 (by decide) ?_
      exact (xe_i hx hb hr hlocks hbase hh hK hX hS h (Nat.le_of_ble_eq_true rfl) (Nat.le_of_ble_eq_true rfl) dX6_horizon_29)
    · replace h := h.2 c15
      refine lv_aload_n hx hb dX6_horizon_19 rfl (lv_at hl 0 rfl) ?_
      obtain ⟨g16, h⟩ := h
      obtain ⟨b17, eb17, h⟩ := h
      refine xr_getR (ci := 6) (C := RX6) (T := TX6) (N := 17) hx hb hL6 hown hK hh g16 (by decide) rfl 5 125 rfl rfl (by decide) (by decide) q2 (fun _ h9 => h9) eb17 dX6_horizon_20 ?_
      refine lv_iload_n hx hb dX6_horizon_23 rfl (lv_at hl 1 rfl) ?_
      obtain ⟨g18, h⟩ := h
      obtain ⟨g19, h⟩ := h
      refine xr_iald hx hb hK hh g18 g19 dX6_horizon_24 ?_
      refine lv_goto (tgt := 29) hx hb dX6_horizon_25 (by decide) ?_
      exact (xe_i hx hb hr hlocks hbase hh hK hX hS h (Nat.le_of_ble_eq_true rfl) (Nat.le_of_ble_eq_true rfl) dX6_horizon_29)

set_option maxHeartbeats 4000000 in
set_option maxRecDepth 100000 in
theorem mt_X6_rows (l : Launch) (G : GG) (base : Nat) {a0 : Nat} {p1 : Int32} {p2 : Int32} {m0 : MM} {Q : Int32 → MM → Prop} (h : wp_X6_rows a0 p1 p2 m0 Q) : Met l yX6_rows wsX6_rows ({ frames := 4, cells := 0, slots := 0, locals := 98 }) (va_Pc [.ref a0, .int p1, .int p2] (SP G base m0)) (va_Qi Q (HB G base) (xA base)) 0 0 (xA base) := by
  refine Met.ofW (cc := cX6_rows) (maxL := 3) (ret := (some .int)) (by decide) rfl ?_
  intro p e s m args below meth c s₁ B hml hv
  obtain ⟨rfl, hbase, hh, hK, hX⟩ := hv
  have C0 : BC p s m _ meth c G base RX6 cX6_rows 3 (some .int) wsX6_rows := ⟨B.exec, B.bytes, B.returns, hml, findClass_of_methodNamed B.named, atoms_spec (ws := wsX6_rows) B.pre, B.notSynchronized, hK, hbase, hX⟩
  obtain ⟨hx, hb, hr, -, hown, hts, hlocks, -, -, -⟩ := id C0
  have hS : va_S (xA base) s.heap s.heap [] := va_S.rf
  have hl := lv_entry ([.ref a0, .int p1, .int p2]) (n := 3) (Nat.le_of_ble_eq_true rfl)
  rw [lg_entry_eq]
  generalize (lg_sl ([.ref a0, .int p1, .int p2]) ++ List.replicate (3 - (lg_sl ([.ref a0, .int p1, .int p2])).length) Slot.unset).toArray = ls at hl ⊢
  have hl : lv_has ls 3 [(0, .ref a0), (1, .int p1), (2, .int p2)] := hl
  unfold wp_X6_rows at h
  refine lv_aload_n hx hb dX6_rows_0 rfl (lv_at hl 0 rfl) ?_
  refine lv_aload_n hx hb dX6_rows_1 rfl (lv_at hl 0 rfl) ?_
  refine lv_iload_n hx hb dX6_rows_2 rfl (lv_at hl 1 rfl) ?_
  obtain ⟨g1, h⟩ := h
  refine xc_i (va_runV (As := [.int p1]) (rest := [.ref a0]) ⟨hx, hb, hml, hown, hts⟩ (mt_X6_isSeries l G base h) (cwV 1 hts gX6_rows_X6_isSeries rfl rfl rfl (by decide +kernel) ⟨Nat.le_of_ble_eq_true rfl, Nat.le_of_ble_eq_true rfl⟩) (xp_V hbase hh hK hX hS (ci := 6) g1 (by decide) rfl) rfl rfl hl.1 rfl (lv_room (Nat.le_of_ble_eq_true rfl)) dX6_rows_3 ⟨Nat.le_of_ble_eq_true rfl, Nat.le_of_ble_eq_true rfl⟩) hS (fun r2 m3 H locs h hh hS => ?_)
  refine lv_if_ne (tgt := 13) hx hb dX6_rows_6 (by decide) (fun c4 => ?_) (fun c4 => ?_)
  · replace h := h.1 c4
    refine lv_iload_n hx hb dX6_rows_13 rfl (lv_at hl 2 rfl) ?_
    refine xc_i (va_runS (As := [.int p2]) (rest := [.ref a0]) ⟨hx, hb, hml, hown, hts⟩ (mt_X6_isTier l G base h) (va_cwS 1 hts gX6_rows_X6_isTier rfl rfl rfl (by decide +kernel) ⟨Nat.le_of_ble_eq_true rfl, Nat.le_of_ble_eq_true rfl⟩) (xp_S hbase hh hK hX hS) rfl rfl hl.1 rfl (lv_room (Nat.le_of_ble_eq_true rfl)) dX6_rows_14 ⟨Nat.le_of_ble_eq_true rfl, Nat.le_of_ble_eq_true rfl⟩) hS (fun r5 m6 H locs h hh hS => ?_)
    refine lv_if_ne (tgt := 24) hx hb dX6_rows_17 (by decide) (fun c7 => ?_) (fun c7 => ?_)
    · replace h := h.1 c7
      refine lv_iconst (v := 0) hx hb dX6_rows_24 (by decide) ?_
      obtain ⟨g8, h⟩ := h
      refine xc_i (va_runV (As := [.int (0 : Int32)]) (rest := []) ⟨hx, hb, hml, hown, hts⟩ (mt_X6_can l G base h) (cwV 1 hts gX6_rows_X6_can rfl rfl rfl (by decide +kernel) ⟨Nat.le_of_ble_eq_true rfl, Nat.le_of_ble_eq_true rfl⟩) (xp_V hbase hh hK hX hS (ci := 6) g8 (by decide) rfl) rfl rfl hl.1 rfl (lv_room (Nat.le_of_ble_eq_true rfl)) dX6_rows_25 ⟨Nat.le_of_ble_eq_true rfl, Nat.le_of_ble_eq_true rfl⟩) hS (fun r9 m10 H locs h hh hS => ?_)
      refine lv_if_eq (tgt := 40) hx hb dX6_rows_28 (by decide) (fun c11 => ?_) (fun c11 => ?_)
      · replace h := h.1 c11
        refine lv_iconst (v := 0) hx hb dX6_rows_40 (by decide) ?_
        exact (xe_i hx hb hr hlocks hbase hh hK hX hS h (Nat.le_of_ble_eq_true rfl) (Nat.le_of_ble_eq_true rfl) dX6_rows_41)
      · replace h := h.2 c11
        refine lv_aload_n hx hb dX6_rows_31 rfl (lv_at hl 0 rfl) ?_
        refine lv_iload_n hx hb dX6_rows_32 rfl (lv_at hl 1 rfl) ?_
        refine lv_iload_n hx hb dX6_rows_33 rfl (lv_at hl 2 rfl) ?_
        obtain ⟨g12, h⟩ := h
        refine xc_i (va_runV (As := [.int p1, .int p2]) (rest := []) ⟨hx, hb, hml, hown, hts⟩ (mt_X6_rowsOf l G base h) (cwV 2 hts gX6_rows_X6_rowsOf rfl rfl rfl (by decide +kernel) ⟨Nat.le_of_ble_eq_true rfl, Nat.le_of_ble_eq_true rfl⟩) (xp_V hbase hh hK hX hS (ci := 6) g12 (by decide) rfl) rfl rfl hl.1 rfl (lv_room (Nat.le_of_ble_eq_true rfl)) dX6_rows_34 ⟨Nat.le_of_ble_eq_true rfl, Nat.le_of_ble_eq_true rfl⟩) hS (fun r13 m14 H locs h hh hS => ?_)
        refine lv_goto (tgt := 41) hx hb dX6_rows_37 (by decide) ?_
        exact (xe_i hx hb hr hlocks hbase hh hK hX hS h (Nat.le_of_ble_eq_true rfl) (Nat.le_of_ble_eq_true rfl) dX6_rows_41)
    · replace h := h.2 c7
      refine lv_iconst (v := 2) hx hb dX6_rows_20 (by decide) ?_
      refine lv_goto (tgt := 25) hx hb dX6_rows_21 (by decide) ?_
      obtain ⟨g15, h⟩ := h
      refine xc_i (va_runV (As := [.int (2 : Int32)]) (rest := []) ⟨hx, hb, hml, hown, hts⟩ (mt_X6_can l G base h) (cwV 1 hts gX6_rows_X6_can rfl rfl rfl (by decide +kernel) ⟨Nat.le_of_ble_eq_true rfl, Nat.le_of_ble_eq_true rfl⟩) (xp_V hbase hh hK hX hS (ci := 6) g15 (by decide) rfl) rfl rfl hl.1 rfl (lv_room (Nat.le_of_ble_eq_true rfl)) dX6_rows_25 ⟨Nat.le_of_ble_eq_true rfl, Nat.le_of_ble_eq_true rfl⟩) hS (fun r16 m17 H locs h hh hS => ?_)
      refine lv_if_eq (tgt := 40) hx hb dX6_rows_28 (by decide) (fun c18 => ?_) (fun c18 => ?_)
      · replace h := h.1 c18
        refine lv_iconst (v := 0) hx hb dX6_rows_40 (by decide) ?_
        exact (xe_i hx hb hr hlocks hbase hh hK hX hS h (Nat.le_of_ble_eq_true rfl) (Nat.le_of_ble_eq_true rfl) dX6_rows_41)
      · replace h := h.2 c18
        refine lv_aload_n hx hb dX6_rows_31 rfl (lv_at hl 0 rfl) ?_
        refine lv_iload_n hx hb dX6_rows_32 rfl (lv_at hl 1 rfl) ?_
        refine lv_iload_n hx hb dX6_rows_33 rfl (lv_at hl 2 rfl) ?_
        obtain ⟨g19, h⟩ := h
        refine xc_i (va_runV (As := [.int p1, .int p2]) (rest := []) ⟨hx, hb, hml, hown, hts⟩ (mt_X6_rowsOf l G base h) (cwV 2 hts gX6_rows_X6_rowsOf rfl rfl rfl (by decide +kernel) ⟨Nat.le_of_ble_eq_true rfl, Nat.le_of_ble_eq_true rfl⟩) (xp_V hbase hh hK hX hS (ci := 6) g19 (by decide) rfl) rfl rfl hl.1 rfl (lv_room (Nat.le_of_ble_eq_true rfl)) dX6_rows_34 ⟨Nat.le_of_ble_eq_true rfl, Nat.le_of_ble_eq_true rfl⟩) hS (fun r20 m21 H locs h hh hS => ?_)
        refine lv_goto (tgt := 41) hx hb dX6_rows_37 (by decide) ?_
        exact (xe_i hx hb hr hlocks hbase hh hK hX hS h (Nat.le_of_ble_eq_true rfl) (Nat.le_of_ble_eq_true rfl) dX6_rows_41)
  · replace h := h.2 c4
    refine lv_iconst (v := 1) hx hb dX6_rows_9 (by decide) ?_
    refine lv_goto (tgt := 25) hx hb dX6_rows_10 (by decide) ?_
    obtain ⟨g22, h⟩ := h
    refine xc_i (va_runV (As := [.int (1 : Int32)]) (rest := []) ⟨hx, hb, hml, hown, hts⟩ (mt_X6_can l G base h) (cwV 1 hts gX6_rows_X6_can rfl rfl rfl (by decide +kernel) ⟨Nat.le_of_ble_eq_true rfl, Nat.le_of_ble_eq_true rfl⟩) (xp_V hbase hh hK hX hS (ci := 6) g22 (by decide) rfl) rfl rfl hl.1 rfl (lv_room (Nat.le_of_ble_eq_true rfl)) dX6_rows_25 ⟨Nat.le_of_ble_eq_true rfl, Nat.le_of_ble_eq_true rfl⟩) hS (fun r23 m24 H locs h hh hS => ?_)
    refine lv_if_eq (tgt := 40) hx hb dX6_rows_28 (by decide) (fun c25 => ?_) (fun c25 => ?_)
    · replace h := h.1 c25
      refine lv_iconst (v := 0) hx hb dX6_rows_40 (by decide) ?_
      exact (xe_i hx hb hr hlocks hbase hh hK hX hS h (Nat.le_of_ble_eq_true rfl) (Nat.le_of_ble_eq_true rfl) dX6_rows_41)
    · replace h := h.2 c25
      refine lv_aload_n hx hb dX6_rows_31 rfl (lv_at hl 0 rfl) ?_
      refine lv_iload_n hx hb dX6_rows_32 rfl (lv_at hl 1 rfl) ?_
      refine lv_iload_n hx hb dX6_rows_33 rfl (lv_at hl 2 rfl) ?_
      obtain ⟨g26, h⟩ := h
      refine xc_i (va_runV (As := [.int p1, .int p2]) (rest := []) ⟨hx, hb, hml, hown, hts⟩ (mt_X6_rowsOf l G base h) (cwV 2 hts gX6_rows_X6_rowsOf rfl rfl rfl (by decide +kernel) ⟨Nat.le_of_ble_eq_true rfl, Nat.le_of_ble_eq_true rfl⟩) (xp_V hbase hh hK hX hS (ci := 6) g26 (by decide) rfl) rfl rfl hl.1 rfl (lv_room (Nat.le_of_ble_eq_true rfl)) dX6_rows_34 ⟨Nat.le_of_ble_eq_true rfl, Nat.le_of_ble_eq_true rfl⟩) hS (fun r27 m28 H locs h hh hS => ?_)
      refine lv_goto (tgt := 41) hx hb dX6_rows_37 (by decide) ?_
      exact (xe_i hx hb hr hlocks hbase hh hK hX hS h (Nat.le_of_ble_eq_true rfl) (Nat.le_of_ble_eq_true rfl) dX6_rows_41)

set_option maxHeartbeats 4000000 in
set_option maxRecDepth 100000 in
theorem bk_X6_timeOf_57 {p : Program} {l : Launch} {e : Env} {s : State} {m : MethodId} {args : Array Value} {below : List Frame} {meth : Method} {c : Code} {G : GG} {base : Nat} (C0 : BC p s m args meth c G base RX6 cX6_timeOf 6 (some .int) wsX6_timeOf) {Q : Int32 → MM → Prop} : ∀ (n : Nat) (l0 : Nat) (l1 : Int32) (l2 : Int32) (l4 : Int32) (l5 : Int32) (m0 : MM) (H : Heap) (locs : List Loc) (ls : Array Slot), wp_X6_timeOf_57 Q n l0 l1 l2 l4 l5 m0 → hp G (xA base) m0 H → va_S (xA base) s.heap H locs → lv_has ls 6 [(0, .ref l0), (1, .int l1), (2, .int l2), (4, .int l4), (5, .int l5)] → W p l e ({ frames := 4, cells := 0, slots := 0, locals := 98 } : Room) s m args below meth c H locs 0 0 (MQ below (va_Qi Q (HB G base) (xA base)) args s 0 0 (xA base)) (F0 m 57 ls []) := by
  obtain ⟨hx, hb, hr, hml, hown, hts, hlocks, hK, hbase, hX⟩ := id C0
  intro n
  induction n with
  | zero =>
    intro l0 l1 l2 l4 l5 m0 H locs ls h
    unfold wp_X6_timeOf_57 at h
    exact h.elim
  | succ n ih =>
    intro l0 l1 l2 l4 l5 m0 H locs ls h hh hS hl
    unfold wp_X6_timeOf_57 at h
    have hL6 : ∀ w ∈ u_ws RX6 TX6 17, w.before _ s = true := fun w h9 => hts w (List.mem_cons_of_mem _ (List.mem_append_right _ (h9)))
    have q2 : (Cond.fieldLink RX6 19 "RollupStoreModel" "who" "[I").before _ s = true := hts _ (List.mem_cons_of_mem _ (List.mem_append_left _ (List.mem_append_left _ (List.mem_of_getElem? (i := 0) rfl))))
    have q3 : (Cond.fieldLink RX6 22 "RollupStoreModel" "time" "[I").before _ s = true := hts _ (List.mem_cons_of_mem _ (List.mem_append_left _ (List.mem_append_left _ (List.mem_of_getElem? (i := 1) rfl))))
    refine lv_iload hx hb dX6_timeOf_57 (lv_at hl 3 rfl) ?_
    refine lv_if_gt (tgt := 83) hx hb dX6_timeOf_59 (by decide) (fun c14 => ?_) (fun c14 => ?_)
    · replace h := h.1 c14
      refine lv_iload hx hb dX6_timeOf_83 (lv_at hl 3 rfl) ?_
      refine lv_aload_n hx hb dX6_timeOf_85 rfl (lv_at hl 0 rfl) ?_
      obtain ⟨g15, h⟩ := h
      obtain ⟨b16, eb16, h⟩ := h
      refine xr_getR (ci := 6) (C := RX6) (T := TX6) (N := 17) hx hb hL6 hown hK hh g15 (by decide) rfl 6 126 rfl rfl (by decide) (by decide) q2 (fun _ h9 => h9) eb16 dX6_timeOf_86 ?_
      refine lv_iload hx hb dX6_timeOf_89 (lv_at hl 4 rfl) ?_
      obtain ⟨g17, h⟩ := h
      obtain ⟨g18, h⟩ := h
      refine xr_iald hx hb hK hh g17 g18 dX6_timeOf_91 ?_
      refine lv_iload_n hx hb dX6_timeOf_92 rfl (lv_at hl 1 rfl) ?_
      refine lv_icmp_ne (tgt := 110) hx hb dX6_timeOf_93 (by decide) (fun c19 => ?_) (fun c19 => ?_)
      · replace h := h.1 c19
        refine lv_iconst (v := 0) hx hb dX6_timeOf_110 (by decide) ?_
        refine lv_isub hx hb dX6_timeOf_111 ?_
        refine lv_topi (fun x20 ex20 => ?_)
        replace h := h x20 ex20
        refine lv_istore (lv' := [(4, .int x20), (0, .ref l0), (1, .int l1), (2, .int l2), (5, .int l5)]) hx hb dX6_timeOf_112 hl (by decide) rfl (fun ls hl => ?_)
        obtain ⟨x21, ex21⟩ : ∃ y : Int32, y = l5 + 1 := ⟨_, rfl⟩
        replace h := h x21 ex21
        refine lv_iinc (v := x21) (lv' := [(5, .int x21), (4, .int x20), (0, .ref l0), (1, .int l1), (2, .int l2)]) hx hb dX6_timeOf_114 hl (k := 4) rfl (by rw [ex21]; rfl) (by decide) rfl (fun ls hl => ?_)
        refine lv_goto (tgt := 57) hx hb dX6_timeOf_117 (by decide) ?_
        exact ih _ _ _ _ _ _ _ _ _ h hh hS (lv_sub hl [2, 3, 4, 1, 0] rfl)
      · replace h := h.2 c19
        refine lv_aload_n hx hb dX6_timeOf_96 rfl (lv_at hl 0 rfl) ?_
        refine lv_iload hx hb dX6_timeOf_97 (lv_at hl 4 rfl) ?_
        refine lv_iload_n hx hb dX6_timeOf_99 rfl (lv_at hl 2 rfl) ?_
        obtain ⟨g22, h⟩ := h
        refine xc_i (va_runV (As := [.int l5, .int l2]) (rest := [.int l4]) ⟨hx, hb, hml, hown, hts⟩ (mt_X6_begins l G base h) (cwV 2 hts gX6_timeOf_X6_begins rfl rfl rfl (by decide +kernel) ⟨Nat.le_of_ble_eq_true rfl, Nat.le_of_ble_eq_true rfl⟩) (xp_V hbase hh hK hX hS (ci := 6) g22 (by decide) rfl) rfl rfl hl.1 rfl (lv_room (Nat.le_of_ble_eq_true rfl)) dX6_timeOf_100 ⟨Nat.le_of_ble_eq_true rfl, Nat.le_of_ble_eq_true rfl⟩) hS (fun r23 m24 H locs h hh hS => ?_)
        refine lv_if_eq (tgt := 110) hx hb dX6_timeOf_103 (by decide) (fun c25 => ?_) (fun c25 => ?_)
        · replace h := h.1 c25
          refine lv_iconst (v := 0) hx hb dX6_timeOf_110 (by decide) ?_
          refine lv_isub hx hb dX6_timeOf_111 ?_
          refine lv_topi (fun x26 ex26 => ?_)
          replace h := h x26 ex26
          refine lv_istore (lv' := [(4, .int x26), (0, .ref l0), (1, .int l1), (2, .int l2), (5, .int l5)]) hx hb dX6_timeOf_112 hl (by decide) rfl (fun ls hl => ?_)
          obtain ⟨x27, ex27⟩ : ∃ y : Int32, y = l5 + 1 := ⟨_, rfl⟩
          replace h := h x27 ex27
          refine lv_iinc (v := x27) (lv' := [(5, .int x27), (4, .int x26), (0, .ref l0), (1, .int l1), (2, .int l2)]) hx hb dX6_timeOf_114 hl (k := 4) rfl (by rw [ex27]; rfl) (by decide) rfl (fun ls hl => ?_)
          refine lv_goto (tgt := 57) hx hb dX6_timeOf_117 (by decide) ?_
          exact ih _ _ _ _ _ _ _ _ _ h hh hS (lv_sub hl [2, 3, 4, 1, 0] rfl)
        · replace h := h.2 c25
          refine lv_iconst (v := 1) hx hb dX6_timeOf_106 (by decide) ?_
          refine lv_goto (tgt := 111) hx hb dX6_timeOf_107 (by decide) ?_
          refine lv_isub hx hb dX6_timeOf_111 ?_
          refine lv_topi (fun x28 ex28 => ?_)
          replace h := h x28 ex28
          refine lv_istore (lv' := [(4, .int x28), (0, .ref l0), (1, .int l1), (2, .int l2), (5, .int l5)]) hx hb dX6_timeOf_112 hl (by decide) rfl (fun ls hl => ?_)
          obtain ⟨x29, ex29⟩ : ∃ y : Int32, y = l5 + 1 := ⟨_, rfl⟩
          replace h := h x29 ex29
          refine lv_iinc (v := x29) (lv' := [(5, .int x29), (4, .int x28), (0, .ref l0), (1, .int l1), (2, .int l2)]) hx hb dX6_timeOf_114 hl (k := 4) rfl (by rw [ex29]; rfl) (by decide) rfl (fun ls hl => ?_)
          refine lv_goto (tgt := 57) hx hb dX6_timeOf_117 (by decide) ?_
          exact ih _ _ _ _ _ _ _ _ _ h hh hS (lv_sub hl [2, 3, 4, 1, 0] rfl)
    · replace h := h.2 c14
      refine lv_aload_n hx hb dX6_timeOf_62 rfl (lv_at hl 0 rfl) ?_
      obtain ⟨g30, h⟩ := h
      obtain ⟨b31, eb31, h⟩ := h
      refine xr_getR (ci := 6) (C := RX6) (T := TX6) (N := 17) hx hb hL6 hown hK hh g30 (by decide) rfl 6 126 rfl rfl (by decide) (by decide) q2 (fun _ h9 => h9) eb31 dX6_timeOf_63 ?_
      refine lv_iload hx hb dX6_timeOf_66 (lv_at hl 4 rfl) ?_
      obtain ⟨g32, h⟩ := h
      obtain ⟨g33, h⟩ := h
      refine xr_iald hx hb hK hh g32 g33 dX6_timeOf_68 ?_
      refine lv_iload_n hx hb dX6_timeOf_69 rfl (lv_at hl 1 rfl) ?_
      refine lv_icmp_ne (tgt := 83) hx hb dX6_timeOf_70 (by decide) (fun c34 => ?_) (fun c34 => ?_)
      · replace h := h.1 c34
        refine lv_iload hx hb dX6_timeOf_83 (lv_at hl 3 rfl) ?_
        refine lv_aload_n hx hb dX6_timeOf_85 rfl (lv_at hl 0 rfl) ?_
        obtain ⟨g35, h⟩ := h
        obtain ⟨b36, eb36, h⟩ := h
        refine xr_getR (ci := 6) (C := RX6) (T := TX6) (N := 17) hx hb hL6 hown hK hh g35 (by decide) rfl 6 126 rfl rfl (by decide) (by decide) q2 (fun _ h9 => h9) eb36 dX6_timeOf_86 ?_
        refine lv_iload hx hb dX6_timeOf_89 (lv_at hl 4 rfl) ?_
        obtain ⟨g37, h⟩ := h
        obtain ⟨g38, h⟩ := h
        refine xr_iald hx hb hK hh g37 g38 dX6_timeOf_91 ?_
        refine lv_iload_n hx hb dX6_timeOf_92 rfl (lv_at hl 1 rfl) ?_
        refine lv_icmp_ne (tgt := 110) hx hb dX6_timeOf_93 (by decide) (fun c39 => ?_) (fun c39 => ?_)
        · replace h := h.1 c39
          refine lv_iconst (v := 0) hx hb dX6_timeOf_110 (by decide) ?_
          refine lv_isub hx hb dX6_timeOf_111 ?_
          refine lv_topi (fun x40 ex40 => ?_)
          replace h := h x40 ex40
          refine lv_istore (lv' := [(4, .int x40), (0, .ref l0), (1, .int l1), (2, .int l2), (5, .int l5)]) hx hb dX6_timeOf_112 hl (by decide) rfl (fun ls hl => ?_)
          obtain ⟨x41, ex41⟩ : ∃ y : Int32, y = l5 + 1 := ⟨_, rfl⟩
          replace h := h x41 ex41
          refine lv_iinc (v := x41) (lv' := [(5, .int x41), (4, .int x40), (0, .ref l0), (1, .int l1), (2, .int l2)]) hx hb dX6_timeOf_114 hl (k := 4) rfl (by rw [ex41]; rfl) (by decide) rfl (fun ls hl => ?_)
          refine lv_goto (tgt := 57) hx hb dX6_timeOf_117 (by decide) ?_
          exact ih _ _ _ _ _ _ _ _ _ h hh hS (lv_sub hl [2, 3, 4, 1, 0] rfl)
        · replace h := h.2 c39
          refine lv_aload_n hx hb dX6_timeOf_96 rfl (lv_at hl 0 rfl) ?_
          refine lv_iload hx hb dX6_timeOf_97 (lv_at hl 4 rfl) ?_
          refine lv_iload_n hx hb dX6_timeOf_99 rfl (lv_at hl 2 rfl) ?_
          obtain ⟨g42, h⟩ := h
          refine xc_i (va_runV (As := [.int l5, .int l2]) (rest := [.int l4]) ⟨hx, hb, hml, hown, hts⟩ (mt_X6_begins l G base h) (cwV 2 hts gX6_timeOf_X6_begins rfl rfl rfl (by decide +kernel) ⟨Nat.le_of_ble_eq_true rfl, Nat.le_of_ble_eq_true rfl⟩) (xp_V hbase hh hK hX hS (ci := 6) g42 (by decide) rfl) rfl rfl hl.1 rfl (lv_room (Nat.le_of_ble_eq_true rfl)) dX6_timeOf_100 ⟨Nat.le_of_ble_eq_true rfl, Nat.le_of_ble_eq_true rfl⟩) hS (fun r43 m44 H locs h hh hS => ?_)
          refine lv_if_eq (tgt := 110) hx hb dX6_timeOf_103 (by decide) (fun c45 => ?_) (fun c45 => ?_)
          · replace h := h.1 c45
            refine lv_iconst (v := 0) hx hb dX6_timeOf_110 (by decide) ?_
            refine lv_isub hx hb dX6_timeOf_111 ?_
            refine lv_topi (fun x46 ex46 => ?_)
            replace h := h x46 ex46
            refine lv_istore (lv' := [(4, .int x46), (0, .ref l0), (1, .int l1), (2, .int l2), (5, .int l5)]) hx hb dX6_timeOf_112 hl (by decide) rfl (fun ls hl => ?_)
            obtain ⟨x47, ex47⟩ : ∃ y : Int32, y = l5 + 1 := ⟨_, rfl⟩
            replace h := h x47 ex47
            refine lv_iinc (v := x47) (lv' := [(5, .int x47), (4, .int x46), (0, .ref l0), (1, .int l1), (2, .int l2)]) hx hb dX6_timeOf_114 hl (k := 4) rfl (by rw [ex47]; rfl) (by decide) rfl (fun ls hl => ?_)
            refine lv_goto (tgt := 57) hx hb dX6_timeOf_117 (by decide) ?_
            exact ih _ _ _ _ _ _ _ _ _ h hh hS (lv_sub hl [2, 3, 4, 1, 0] rfl)
          · replace h := h.2 c45
            refine lv_iconst (v := 1) hx hb dX6_timeOf_106 (by decide) ?_
            refine lv_goto (tgt := 111) hx hb dX6_timeOf_107 (by decide) ?_
            refine lv_isub hx hb dX6_timeOf_111 ?_
            refine lv_topi (fun x48 ex48 => ?_)
            replace h := h x48 ex48
            refine lv_istore (lv' := [(4, .int x48), (0, .ref l0), (1, .int l1), (2, .int l2), (5, .int l5)]) hx hb dX6_timeOf_112 hl (by decide) rfl (fun ls hl => ?_)
            obtain ⟨x49, ex49⟩ : ∃ y : Int32, y = l5 + 1 := ⟨_, rfl⟩
            replace h := h x49 ex49
            refine lv_iinc (v := x49) (lv' := [(5, .int x49), (4, .int x48), (0, .ref l0), (1, .int l1), (2, .int l2)]) hx hb dX6_timeOf_114 hl (k := 4) rfl (by rw [ex49]; rfl) (by decide) rfl (fun ls hl => ?_)
            refine lv_goto (tgt := 57) hx hb dX6_timeOf_117 (by decide) ?_
            exact ih _ _ _ _ _ _ _ _ _ h hh hS (lv_sub hl [2, 3, 4, 1, 0] rfl)
      · replace h := h.2 c34
        refine lv_aload_n hx hb dX6_timeOf_73 rfl (lv_at hl 0 rfl) ?_
        refine lv_iload hx hb dX6_timeOf_74 (lv_at hl 4 rfl) ?_
        refine lv_iload_n hx hb dX6_timeOf_76 rfl (lv_at hl 2 rfl) ?_
        obtain ⟨g50, h⟩ := h
        refine xc_i (va_runV (As := [.int l5, .int l2]) (rest := []) ⟨hx, hb, hml, hown, hts⟩ (mt_X6_begins l G base h) (cwV 2 hts gX6_timeOf_X6_begins rfl rfl rfl (by decide +kernel) ⟨Nat.le_of_ble_eq_true rfl, Nat.le_of_ble_eq_true rfl⟩) (xp_V hbase hh hK hX hS (ci := 6) g50 (by decide) rfl) rfl rfl hl.1 rfl (lv_room (Nat.le_of_ble_eq_true rfl)) dX6_timeOf_77 ⟨Nat.le_of_ble_eq_true rfl, Nat.le_of_ble_eq_true rfl⟩) hS (fun r51 m52 H locs h hh hS => ?_)
        refine lv_if_ne (tgt := 120) hx hb dX6_timeOf_80 (by decide) (fun c53 => ?_) (fun c53 => ?_)
        · replace h := h.1 c53
          refine lv_iload_n hx hb dX6_timeOf_120 rfl (lv_at hl 2 rfl) ?_
          refine lv_if_ne (tgt := 134) hx hb dX6_timeOf_121 (by decide) (fun c54 => ?_) (fun c54 => ?_)
          · replace h := h.1 c54
            refine lv_iload_n hx hb dX6_timeOf_134 rfl (lv_at hl 2 rfl) ?_
            refine lv_aload_n hx hb dX6_timeOf_135 rfl (lv_at hl 0 rfl) ?_
            obtain ⟨g55, h⟩ := h
            obtain ⟨b56, eb56, h⟩ := h
            refine xr_getR (ci := 6) (C := RX6) (T := TX6) (N := 17) hx hb hL6 hown hK hh g55 (by decide) rfl 7 127 rfl rfl (by decide) (by decide) q3 (fun _ h9 => h9) eb56 dX6_timeOf_136 ?_
            refine lv_iload hx hb dX6_timeOf_139 (lv_at hl 4 rfl) ?_
            obtain ⟨g57, h⟩ := h
            obtain ⟨g58, h⟩ := h
            refine xr_iald hx hb hK hh g57 g58 dX6_timeOf_141 ?_
            refine xc_i (va_runS (As := [.int l2, .int (mAI m52 b56 l5.toNatClampNeg)]) (rest := []) ⟨hx, hb, hml, hown, hts⟩ (mt_X6_begin l G base h) (va_cwS 2 hts gX6_timeOf_X6_begin rfl rfl rfl (by decide +kernel) ⟨Nat.le_of_ble_eq_true rfl, Nat.le_of_ble_eq_true rfl⟩) (xp_S hbase hh hK hX hS) rfl rfl hl.1 rfl (lv_room (Nat.le_of_ble_eq_true rfl)) dX6_timeOf_142 ⟨Nat.le_of_ble_eq_true rfl, Nat.le_of_ble_eq_true rfl⟩) hS (fun r59 m60 H locs h hh hS => ?_)
            exact (xe_i hx hb hr hlocks hbase hh hK hX hS h (Nat.le_of_ble_eq_true rfl) (Nat.le_of_ble_eq_true rfl) dX6_timeOf_145)
          · replace h := h.2 c54
            refine lv_aload_n hx hb dX6_timeOf_124 rfl (lv_at hl 0 rfl) ?_
            obtain ⟨g61, h⟩ := h
            obtain ⟨b62, eb62, h⟩ := h
            refine xr_getR (ci := 6) (C := RX6) (T := TX6) (N := 17) hx hb hL6 hown hK hh g61 (by decide) rfl 7 127 rfl rfl (by decide) (by decide) q3 (fun _ h9 => h9) eb62 dX6_timeOf_125 ?_
            refine lv_iload hx hb dX6_timeOf_128 (lv_at hl 4 rfl) ?_
            obtain ⟨g63, h⟩ := h
            obtain ⟨g64, h⟩ := h
            refine xr_iald hx hb hK hh g63 g64 dX6_timeOf_130 ?_
            refine lv_goto (tgt := 145) hx hb dX6_timeOf_131 (by decide) ?_
            exact (xe_i hx hb hr hlocks hbase hh hK hX hS h (Nat.le_of_ble_eq_true rfl) (Nat.le_of_ble_eq_true rfl) dX6_timeOf_145)
        · replace h := h.2 c53
          refine lv_iload hx hb dX6_timeOf_83 (lv_at hl 3 rfl) ?_
          refine lv_aload_n hx hb dX6_timeOf_85 rfl (lv_at hl 0 rfl) ?_
          obtain ⟨g65, h⟩ := h
          obtain ⟨b66, eb66, h⟩ := h
          refine xr_getR (ci := 6) (C := RX6) (T := TX6) (N := 17) hx hb hL6 hown hK hh g65 (by decide) rfl 6 126 rfl rfl (by decide) (by decide) q2 (fun _ h9 => h9) eb66 dX6_timeOf_86 ?_
          refine lv_iload hx hb dX6_timeOf_89 (lv_at hl 4 rfl) ?_
          obtain ⟨g67, h⟩ := h
          obtain ⟨g68, h⟩ := h
          refine xr_iald hx hb hK hh g67 g68 dX6_timeOf_91 ?_
          refine lv_iload_n hx hb dX6_timeOf_92 rfl (lv_at hl 1 rfl) ?_
          refine lv_icmp_ne (tgt := 110) hx hb dX6_timeOf_93 (by decide) (fun c69 => ?_) (fun c69 => ?_)
          · replace h := h.1 c69
            refine lv_iconst (v := 0) hx hb dX6_timeOf_110 (by decide) ?_
            refine lv_isub hx hb dX6_timeOf_111 ?_
            refine lv_topi (fun x70 ex70 => ?_)
            replace h := h x70 ex70
            refine lv_istore (lv' := [(4, .int x70), (0, .ref l0), (1, .int l1), (2, .int l2), (5, .int l5)]) hx hb dX6_timeOf_112 hl (by decide) rfl (fun ls hl => ?_)
            obtain ⟨x71, ex71⟩ : ∃ y : Int32, y = l5 + 1 := ⟨_, rfl⟩
            replace h := h x71 ex71
            refine lv_iinc (v := x71) (lv' := [(5, .int x71), (4, .int x70), (0, .ref l0), (1, .int l1), (2, .int l2)]) hx hb dX6_timeOf_114 hl (k := 4) rfl (by rw [ex71]; rfl) (by decide) rfl (fun ls hl => ?_)
            refine lv_goto (tgt := 57) hx hb dX6_timeOf_117 (by decide) ?_
            exact ih _ _ _ _ _ _ _ _ _ h hh hS (lv_sub hl [2, 3, 4, 1, 0] rfl)
          · replace h := h.2 c69
            refine lv_aload_n hx hb dX6_timeOf_96 rfl (lv_at hl 0 rfl) ?_
            refine lv_iload hx hb dX6_timeOf_97 (lv_at hl 4 rfl) ?_
            refine lv_iload_n hx hb dX6_timeOf_99 rfl (lv_at hl 2 rfl) ?_
            obtain ⟨g72, h⟩ := h
            refine xc_i (va_runV (As := [.int l5, .int l2]) (rest := [.int l4]) ⟨hx, hb, hml, hown, hts⟩ (mt_X6_begins l G base h) (cwV 2 hts gX6_timeOf_X6_begins rfl rfl rfl (by decide +kernel) ⟨Nat.le_of_ble_eq_true rfl, Nat.le_of_ble_eq_true rfl⟩) (xp_V hbase hh hK hX hS (ci := 6) g72 (by decide) rfl) rfl rfl hl.1 rfl (lv_room (Nat.le_of_ble_eq_true rfl)) dX6_timeOf_100 ⟨Nat.le_of_ble_eq_true rfl, Nat.le_of_ble_eq_true rfl⟩) hS (fun r73 m74 H locs h hh hS => ?_)
            refine lv_if_eq (tgt := 110) hx hb dX6_timeOf_103 (by decide) (fun c75 => ?_) (fun c75 => ?_)
            · replace h := h.1 c75
              refine lv_iconst (v := 0) hx hb dX6_timeOf_110 (by decide) ?_
              refine lv_isub hx hb dX6_timeOf_111 ?_
              refine lv_topi (fun x76 ex76 => ?_)
              replace h := h x76 ex76
              refine lv_istore (lv' := [(4, .int x76), (0, .ref l0), (1, .int l1), (2, .int l2), (5, .int l5)]) hx hb dX6_timeOf_112 hl (by decide) rfl (fun ls hl => ?_)
              obtain ⟨x77, ex77⟩ : ∃ y : Int32, y = l5 + 1 := ⟨_, rfl⟩
              replace h := h x77 ex77
              refine lv_iinc (v := x77) (lv' := [(5, .int x77), (4, .int x76), (0, .ref l0), (1, .int l1), (2, .int l2)]) hx hb dX6_timeOf_114 hl (k := 4) rfl (by rw [ex77]; rfl) (by decide) rfl (fun ls hl => ?_)
              refine lv_goto (tgt := 57) hx hb dX6_timeOf_117 (by decide) ?_
              exact ih _ _ _ _ _ _ _ _ _ h hh hS (lv_sub hl [2, 3, 4, 1, 0] rfl)
            · replace h := h.2 c75
              refine lv_iconst (v := 1) hx hb dX6_timeOf_106 (by decide) ?_
              refine lv_goto (tgt := 111) hx hb dX6_timeOf_107 (by decide) ?_
              refine lv_isub hx hb dX6_timeOf_111 ?_
              refine lv_topi (fun x78 ex78 => ?_)
              replace h := h x78 ex78
              refine lv_istore (lv' := [(4, .int x78), (0, .ref l0), (1, .int l1), (2, .int l2), (5, .int l5)]) hx hb dX6_timeOf_112 hl (by decide) rfl (fun ls hl => ?_)
              obtain ⟨x79, ex79⟩ : ∃ y : Int32, y = l5 + 1 := ⟨_, rfl⟩
              replace h := h x79 ex79
              refine lv_iinc (v := x79) (lv' := [(5, .int x79), (4, .int x78), (0, .ref l0), (1, .int l1), (2, .int l2)]) hx hb dX6_timeOf_114 hl (k := 4) rfl (by rw [ex79]; rfl) (by decide) rfl (fun ls hl => ?_)
              refine lv_goto (tgt := 57) hx hb dX6_timeOf_117 (by decide) ?_
              exact ih _ _ _ _ _ _ _ _ _ h hh hS (lv_sub hl [2, 3, 4, 1, 0] rfl)

set_option maxHeartbeats 4000000 in
set_option maxRecDepth 100000 in
theorem mt_X6_timeOf (l : Launch) (G : GG) (base : Nat) {a0 : Nat} {p1 : Int32} {p2 : Int32} {p3 : Int32} {m0 : MM} {Q : Int32 → MM → Prop} (h : wp_X6_timeOf a0 p1 p2 p3 m0 Q) : Met l yX6_timeOf wsX6_timeOf ({ frames := 4, cells := 0, slots := 0, locals := 98 }) (va_Pc [.ref a0, .int p1, .int p2, .int p3] (SP G base m0)) (va_Qi Q (HB G base) (xA base)) 0 0 (xA base) := by
  refine Met.ofW (cc := cX6_timeOf) (maxL := 6) (ret := (some .int)) (by decide) rfl ?_
  intro p e s m args below meth c s₁ B hml hv
  obtain ⟨rfl, hbase, hh, hK, hX⟩ := hv
  have C0 : BC p s m _ meth c G base RX6 cX6_timeOf 6 (some .int) wsX6_timeOf := ⟨B.exec, B.bytes, B.returns, hml, findClass_of_methodNamed B.named, atoms_spec (ws := wsX6_timeOf) B.pre, B.notSynchronized, hK, hbase, hX⟩
  obtain ⟨hx, hb, hr, -, hown, hts, hlocks, -, -, -⟩ := id C0
  have hS : va_S (xA base) s.heap s.heap [] := va_S.rf
  have hl := lv_entry ([.ref a0, .int p1, .int p2, .int p3]) (n := 6) (Nat.le_of_ble_eq_true rfl)
  rw [lg_entry_eq]
  generalize (lg_sl ([.ref a0, .int p1, .int p2, .int p3]) ++ List.replicate (6 - (lg_sl ([.ref a0, .int p1, .int p2, .int p3])).length) Slot.unset).toArray = ls at hl ⊢
  have hl : lv_has ls 6 [(0, .ref a0), (1, .int p1), (2, .int p2), (3, .int p3)] := hl
  unfold wp_X6_timeOf at h
  refine lv_aload_n hx hb dX6_timeOf_0 rfl (lv_at hl 0 rfl) ?_
  refine lv_aload_n hx hb dX6_timeOf_1 rfl (lv_at hl 0 rfl) ?_
  refine lv_iload_n hx hb dX6_timeOf_2 rfl (lv_at hl 1 rfl) ?_
  obtain ⟨g1, h⟩ := h
  refine xc_i (va_runV (As := [.int p1]) (rest := [.ref a0]) ⟨hx, hb, hml, hown, hts⟩ (mt_X6_isSeries l G base h) (cwV 1 hts gX6_timeOf_X6_isSeries rfl rfl rfl (by decide +kernel) ⟨Nat.le_of_ble_eq_true rfl, Nat.le_of_ble_eq_true rfl⟩) (xp_V hbase hh hK hX hS (ci := 6) g1 (by decide) rfl) rfl rfl hl.1 rfl (lv_room (Nat.le_of_ble_eq_true rfl)) dX6_timeOf_3 ⟨Nat.le_of_ble_eq_true rfl, Nat.le_of_ble_eq_true rfl⟩) hS (fun r2 m3 H locs h hh hS => ?_)
  refine lv_if_ne (tgt := 13) hx hb dX6_timeOf_6 (by decide) (fun c4 => ?_) (fun c4 => ?_)
  · replace h := h.1 c4
    refine lv_iload_n hx hb dX6_timeOf_13 rfl (lv_at hl 2 rfl) ?_
    refine xc_i (va_runS (As := [.int p2]) (rest := [.ref a0]) ⟨hx, hb, hml, hown, hts⟩ (mt_X6_isTier l G base h) (va_cwS 1 hts gX6_timeOf_X6_isTier rfl rfl rfl (by decide +kernel) ⟨Nat.le_of_ble_eq_true rfl, Nat.le_of_ble_eq_true rfl⟩) (xp_S hbase hh hK hX hS) rfl rfl hl.1 rfl (lv_room (Nat.le_of_ble_eq_true rfl)) dX6_timeOf_14 ⟨Nat.le_of_ble_eq_true rfl, Nat.le_of_ble_eq_true rfl⟩) hS (fun r5 m6 H locs h hh hS => ?_)
    refine lv_if_ne (tgt := 24) hx hb dX6_timeOf_17 (by decide) (fun c7 => ?_) (fun c7 => ?_)
    · replace h := h.1 c7
      refine lv_iload_n hx hb dX6_timeOf_24 rfl (lv_at hl 3 rfl) ?_
      refine lv_if_lt (tgt := 38) hx hb dX6_timeOf_25 (by decide) (fun c8 => ?_) (fun c8 => ?_)
      · replace h := h.1 c8
        refine lv_iconst (v := 3) hx hb dX6_timeOf_38 (by decide) ?_
        refine lv_goto (tgt := 43) hx hb dX6_timeOf_39 (by decide) ?_
        obtain ⟨g9, h⟩ := h
        refine xc_i (va_runV (As := [.int (3 : Int32)]) (rest := []) ⟨hx, hb, hml, hown, hts⟩ (mt_X6_can l G base h) (cwV 1 hts gX6_timeOf_X6_can rfl rfl rfl (by decide +kernel) ⟨Nat.le_of_ble_eq_true rfl, Nat.le_of_ble_eq_true rfl⟩) (xp_V hbase hh hK hX hS (ci := 6) g9 (by decide) rfl) rfl rfl hl.1 rfl (lv_room (Nat.le_of_ble_eq_true rfl)) dX6_timeOf_43 ⟨Nat.le_of_ble_eq_true rfl, Nat.le_of_ble_eq_true rfl⟩) hS (fun r10 m11 H locs h hh hS => ?_)
        refine lv_if_ne (tgt := 51) hx hb dX6_timeOf_46 (by decide) (fun c12 => ?_) (fun c12 => ?_)
        · replace h := h.1 c12
          refine lv_iload_n hx hb dX6_timeOf_51 rfl (lv_at hl 3 rfl) ?_
          refine lv_istore (lv' := [(4, .int p3), (0, .ref a0), (1, .int p1), (2, .int p2), (3, .int p3)]) hx hb dX6_timeOf_52 hl (by decide) rfl (fun ls hl => ?_)
          refine lv_iconst (v := 0) hx hb dX6_timeOf_54 (by decide) ?_
          refine lv_topi (fun x13 ex13 => ?_)
          replace h := h x13 ex13
          refine lv_istore (lv' := [(5, .int x13), (4, .int p3), (0, .ref a0), (1, .int p1), (2, .int p2), (3, .int p3)]) hx hb dX6_timeOf_55 hl (by decide) rfl (fun ls hl => ?_)
          obtain ⟨n9, h⟩ := h
          exact bk_X6_timeOf_57 C0  n9 _ _ _ _ _ _ _ _ _ h hh hS (lv_sub hl [2, 3, 4, 1, 0] rfl)
        · replace h := h.2 c12
          refine lv_iconst (v := 0) hx hb dX6_timeOf_49 (by decide) ?_
          exact (xe_i hx hb hr hlocks hbase hh hK hX hS h (Nat.le_of_ble_eq_true rfl) (Nat.le_of_ble_eq_true rfl) dX6_timeOf_50)
      · replace h := h.2 c8
        refine lv_iload_n hx hb dX6_timeOf_28 rfl (lv_at hl 3 rfl) ?_
        refine lv_aload_n hx hb dX6_timeOf_29 rfl (lv_at hl 0 rfl) ?_
        refine lv_iload_n hx hb dX6_timeOf_30 rfl (lv_at hl 1 rfl) ?_
        refine lv_iload_n hx hb dX6_timeOf_31 rfl (lv_at hl 2 rfl) ?_
        obtain ⟨g80, h⟩ := h
        refine xc_i (va_runV (As := [.int p1, .int p2]) (rest := [.int p3, .ref a0]) ⟨hx, hb, hml, hown, hts⟩ (mt_X6_rowsOf l G base h) (cwV 2 hts gX6_timeOf_X6_rowsOf rfl rfl rfl (by decide +kernel) ⟨Nat.le_of_ble_eq_true rfl, Nat.le_of_ble_eq_true rfl⟩) (xp_V hbase hh hK hX hS (ci := 6) g80 (by decide) rfl) rfl rfl hl.1 rfl (lv_room (Nat.le_of_ble_eq_true rfl)) dX6_timeOf_32 ⟨Nat.le_of_ble_eq_true rfl, Nat.le_of_ble_eq_true rfl⟩) hS (fun r81 m82 H locs h hh hS => ?_)
        refine lv_icmp_lt (tgt := 42) hx hb dX6_timeOf_35 (by decide) (fun c83 => ?_) (fun c83 => ?_)
        · replace h := h.1 c83
          refine lv_iconst (v := 0) hx hb dX6_timeOf_42 (by decide) ?_
          obtain ⟨g84, h⟩ := h
          refine xc_i (va_runV (As := [.int (0 : Int32)]) (rest := []) ⟨hx, hb, hml, hown, hts⟩ (mt_X6_can l G base h) (cwV 1 hts gX6_timeOf_X6_can rfl rfl rfl (by decide +kernel) ⟨Nat.le_of_ble_eq_true rfl, Nat.le_of_ble_eq_true rfl⟩) (xp_V hbase hh hK hX hS (ci := 6) g84 (by decide) rfl) rfl rfl hl.1 rfl (lv_room (Nat.le_of_ble_eq_true rfl)) dX6_timeOf_43 ⟨Nat.le_of_ble_eq_true rfl, Nat.le_of_ble_eq_true rfl⟩) hS (fun r85 m86 H locs h hh hS => ?_)
          refine lv_if_ne (tgt := 51) hx hb dX6_timeOf_46 (by decide) (fun c87 => ?_) (fun c87 => ?_)
          · replace h := h.1 c87
            refine lv_iload_n hx hb dX6_timeOf_51 rfl (lv_at hl 3 rfl) ?_
            refine lv_istore (lv' := [(4, .int p3), (0, .ref a0), (1, .int p1), (2, .int p2), (3, .int p3)]) hx hb dX6_timeOf_52 hl (by decide) rfl (fun ls hl => ?_)
            refine lv_iconst (v := 0) hx hb dX6_timeOf_54 (by decide) ?_
            refine lv_topi (fun x88 ex88 => ?_)
            replace h := h x88 ex88
            refine lv_istore (lv' := [(5, .int x88), (4, .int p3), (0, .ref a0), (1, .int p1), (2, .int p2), (3, .int p3)]) hx hb dX6_timeOf_55 hl (by decide) rfl (fun ls hl => ?_)
            obtain ⟨n9, h⟩ := h
            exact bk_X6_timeOf_57 C0  n9 _ _ _ _ _ _ _ _ _ h hh hS (lv_sub hl [2, 3, 4, 1, 0] rfl)
          · replace h := h.2 c87
            refine lv_iconst (v := 0) hx hb dX6_timeOf_49 (by decide) ?_
            exact (xe_i hx hb hr hlocks hbase hh hK hX hS h (Nat.le_of_ble_eq_true rfl) (Nat.le_of_ble_eq_true rfl) dX6_timeOf_50)
        · replace h := h.2 c83
          refine lv_iconst (v := 3) hx hb dX6_timeOf_38 (by decide) ?_
          refine lv_goto (tgt := 43) hx hb dX6_timeOf_39 (by decide) ?_
          obtain ⟨g89, h⟩ := h
          refine xc_i (va_runV (As := [.int (3 : Int32)]) (rest := []) ⟨hx, hb, hml, hown, hts⟩ (mt_X6_can l G base h) (cwV 1 hts gX6_timeOf_X6_can rfl rfl rfl (by decide +kernel) ⟨Nat.le_of_ble_eq_true rfl, Nat.le_of_ble_eq_true rfl⟩) (xp_V hbase hh hK hX hS (ci := 6) g89 (by decide) rfl) rfl rfl hl.1 rfl (lv_room (Nat.le_of_ble_eq_true rfl)) dX6_timeOf_43 ⟨Nat.le_of_ble_eq_true rfl, Nat.le_of_ble_eq_true rfl⟩) hS (fun r90 m91 H locs h hh hS => ?_)
          refine lv_if_ne (tgt := 51) hx hb dX6_timeOf_46 (by decide) (fun c92 => ?_) (fun c92 => ?_)
          · replace h := h.1 c92
            refine lv_iload_n hx hb dX6_timeOf_51 rfl (lv_at hl 3 rfl) ?_
            refine lv_istore (lv' := [(4, .int p3), (0, .ref a0), (1, .int p1), (2, .int p2), (3, .int p3)]) hx hb dX6_timeOf_52 hl (by decide) rfl (fun ls hl => ?_)
            refine lv_iconst (v := 0) hx hb dX6_timeOf_54 (by decide) ?_
            refine lv_topi (fun x93 ex93 => ?_)
            replace h := h x93 ex93
            refine lv_istore (lv' := [(5, .int x93), (4, .int p3), (0, .ref a0), (1, .int p1), (2, .int p2), (3, .int p3)]) hx hb dX6_timeOf_55 hl (by decide) rfl (fun ls hl => ?_)
            obtain ⟨n9, h⟩ := h
            exact bk_X6_timeOf_57 C0  n9 _ _ _ _ _ _ _ _ _ h hh hS (lv_sub hl [2, 3, 4, 1, 0] rfl)
          · replace h := h.2 c92
            refine lv_iconst (v := 0) hx hb dX6_timeOf_49 (by decide) ?_
            exact (xe_i hx hb hr hlocks hbase hh hK hX hS h (Nat.le_of_ble_eq_true rfl) (Nat.le_of_ble_eq_true rfl) dX6_timeOf_50)
    · replace h := h.2 c7
      refine lv_iconst (v := 2) hx hb dX6_timeOf_20 (by decide) ?_
      refine lv_goto (tgt := 43) hx hb dX6_timeOf_21 (by decide) ?_
      obtain ⟨g94, h⟩ := h
      refine xc_i (va_runV (As := [.int (2 : Int32)]) (rest := []) ⟨hx, hb, hml, hown, hts⟩ (mt_X6_can l G base h) (cwV 1 hts gX6_timeOf_X6_can rfl rfl rfl (by decide +kernel) ⟨Nat.le_of_ble_eq_true rfl, Nat.le_of_ble_eq_true rfl⟩) (xp_V hbase hh hK hX hS (ci := 6) g94 (by decide) rfl) rfl rfl hl.1 rfl (lv_room (Nat.le_of_ble_eq_true rfl)) dX6_timeOf_43 ⟨Nat.le_of_ble_eq_true rfl, Nat.le_of_ble_eq_true rfl⟩) hS (fun r95 m96 H locs h hh hS => ?_)
      refine lv_if_ne (tgt := 51) hx hb dX6_timeOf_46 (by decide) (fun c97 => ?_) (fun c97 => ?_)
      · replace h := h.1 c97
        refine lv_iload_n hx hb dX6_timeOf_51 rfl (lv_at hl 3 rfl) ?_
        refine lv_istore (lv' := [(4, .int p3), (0, .ref a0), (1, .int p1), (2, .int p2), (3, .int p3)]) hx hb dX6_timeOf_52 hl (by decide) rfl (fun ls hl => ?_)
        refine lv_iconst (v := 0) hx hb dX6_timeOf_54 (by decide) ?_
        refine lv_topi (fun x98 ex98 => ?_)
        replace h := h x98 ex98
        refine lv_istore (lv' := [(5, .int x98), (4, .int p3), (0, .ref a0), (1, .int p1), (2, .int p2), (3, .int p3)]) hx hb dX6_timeOf_55 hl (by decide) rfl (fun ls hl => ?_)
        obtain ⟨n9, h⟩ := h
        exact bk_X6_timeOf_57 C0  n9 _ _ _ _ _ _ _ _ _ h hh hS (lv_sub hl [2, 3, 4, 1, 0] rfl)
      · replace h := h.2 c97
        refine lv_iconst (v := 0) hx hb dX6_timeOf_49 (by decide) ?_
        exact (xe_i hx hb hr hlocks hbase hh hK hX hS h (Nat.le_of_ble_eq_true rfl) (Nat.le_of_ble_eq_true rfl) dX6_timeOf_50)
  · replace h := h.2 c4
    refine lv_iconst (v := 1) hx hb dX6_timeOf_9 (by decide) ?_
    refine lv_goto (tgt := 43) hx hb dX6_timeOf_10 (by decide) ?_
    obtain ⟨g99, h⟩ := h
    refine xc_i (va_runV (As := [.int (1 : Int32)]) (rest := []) ⟨hx, hb, hml, hown, hts⟩ (mt_X6_can l G base h) (cwV 1 hts gX6_timeOf_X6_can rfl rfl rfl (by decide +kernel) ⟨Nat.le_of_ble_eq_true rfl, Nat.le_of_ble_eq_true rfl⟩) (xp_V hbase hh hK hX hS (ci := 6) g99 (by decide) rfl) rfl rfl hl.1 rfl (lv_room (Nat.le_of_ble_eq_true rfl)) dX6_timeOf_43 ⟨Nat.le_of_ble_eq_true rfl, Nat.le_of_ble_eq_true rfl⟩) hS (fun r100 m101 H locs h hh hS => ?_)
    refine lv_if_ne (tgt := 51) hx hb dX6_timeOf_46 (by decide) (fun c102 => ?_) (fun c102 => ?_)
    · replace h := h.1 c102
      refine lv_iload_n hx hb dX6_timeOf_51 rfl (lv_at hl 3 rfl) ?_
      refine lv_istore (lv' := [(4, .int p3), (0, .ref a0), (1, .int p1), (2, .int p2), (3, .int p3)]) hx hb dX6_timeOf_52 hl (by decide) rfl (fun ls hl => ?_)
      refine lv_iconst (v := 0) hx hb dX6_timeOf_54 (by decide) ?_
      refine lv_topi (fun x103 ex103 => ?_)
      replace h := h x103 ex103
      refine lv_istore (lv' := [(5, .int x103), (4, .int p3), (0, .ref a0), (1, .int p1), (2, .int p2), (3, .int p3)]) hx hb dX6_timeOf_55 hl (by decide) rfl (fun ls hl => ?_)
      obtain ⟨n9, h⟩ := h
      exact bk_X6_timeOf_57 C0  n9 _ _ _ _ _ _ _ _ _ h hh hS (lv_sub hl [2, 3, 4, 1, 0] rfl)
    · replace h := h.2 c102
      refine lv_iconst (v := 0) hx hb dX6_timeOf_49 (by decide) ?_
      exact (xe_i hx hb hr hlocks hbase hh hK hX hS h (Nat.le_of_ble_eq_true rfl) (Nat.le_of_ble_eq_true rfl) dX6_timeOf_50)

set_option maxHeartbeats 4000000 in
set_option maxRecDepth 100000 in
theorem mt_X6_valueAt (l : Launch) (G : GG) (base : Nat) {a0 : Nat} {p1 : Int32} {p2 : Int32} {m0 : MM} {Q : Int32 → MM → Prop} (h : wp_X6_valueAt a0 p1 p2 m0 Q) : Met l yX6_valueAt wsX6_valueAt ({ frames := 2, cells := 0, slots := 0, locals := 53 }) (va_Pc [.ref a0, .int p1, .int p2] (SP G base m0)) (va_Qi Q (HB G base) (xA base)) 0 0 (xA base) := by
  refine Met.ofW (cc := cX6_valueAt) (maxL := 3) (ret := (some .int)) (by decide) rfl ?_
  intro p e s m args below meth c s₁ B hml hv
  obtain ⟨rfl, hbase, hh, hK, hX⟩ := hv
  have C0 : BC p s m _ meth c G base RX6 cX6_valueAt 3 (some .int) wsX6_valueAt := ⟨B.exec, B.bytes, B.returns, hml, findClass_of_methodNamed B.named, atoms_spec (ws := wsX6_valueAt) B.pre, B.notSynchronized, hK, hbase, hX⟩
  obtain ⟨hx, hb, hr, -, hown, hts, hlocks, -, -, -⟩ := id C0
  have hS : va_S (xA base) s.heap s.heap [] := va_S.rf
  have hl := lv_entry ([.ref a0, .int p1, .int p2]) (n := 3) (Nat.le_of_ble_eq_true rfl)
  rw [lg_entry_eq]
  generalize (lg_sl ([.ref a0, .int p1, .int p2]) ++ List.replicate (3 - (lg_sl ([.ref a0, .int p1, .int p2])).length) Slot.unset).toArray = ls at hl ⊢
  have hl : lv_has ls 3 [(0, .ref a0), (1, .int p1), (2, .int p2)] := hl
  unfold wp_X6_valueAt at h
  have hL6 : ∀ w ∈ u_ws RX6 TX6 17, w.before _ s = true := fun w h9 => hts w (List.mem_cons_of_mem _ (List.mem_append_right _ (h9)))
  have q2 : (Cond.fieldLink RX6 25 "RollupStoreModel" "value" "[I").before _ s = true := hts _ (List.mem_cons_of_mem _ (List.mem_append_left _ (List.mem_append_left _ (List.mem_of_getElem? (i := 0) rfl))))
  refine lv_aload_n hx hb dX6_valueAt_0 rfl (lv_at hl 0 rfl) ?_
  refine lv_aload_n hx hb dX6_valueAt_1 rfl (lv_at hl 0 rfl) ?_
  refine lv_iload_n hx hb dX6_valueAt_2 rfl (lv_at hl 1 rfl) ?_
  obtain ⟨g1, h⟩ := h
  refine xc_i (va_runV (As := [.int p1]) (rest := [.ref a0]) ⟨hx, hb, hml, hown, hts⟩ (mt_X6_isSeries l G base h) (cwV 1 hts gX6_valueAt_X6_isSeries rfl rfl rfl (by decide +kernel) ⟨Nat.le_of_ble_eq_true rfl, Nat.le_of_ble_eq_true rfl⟩) (xp_V hbase hh hK hX hS (ci := 6) g1 (by decide) rfl) rfl rfl hl.1 rfl (lv_room (Nat.le_of_ble_eq_true rfl)) dX6_valueAt_3 ⟨Nat.le_of_ble_eq_true rfl, Nat.le_of_ble_eq_true rfl⟩) hS (fun r2 m3 H locs h hh hS => ?_)
  refine lv_if_ne (tgt := 13) hx hb dX6_valueAt_6 (by decide) (fun c4 => ?_) (fun c4 => ?_)
  · replace h := h.1 c4
    refine lv_aload_n hx hb dX6_valueAt_13 rfl (lv_at hl 0 rfl) ?_
    refine lv_iload_n hx hb dX6_valueAt_14 rfl (lv_at hl 1 rfl) ?_
    refine lv_iload_n hx hb dX6_valueAt_15 rfl (lv_at hl 2 rfl) ?_
    obtain ⟨g5, h⟩ := h
    refine xc_i (va_runV (As := [.int p1, .int p2]) (rest := [.ref a0]) ⟨hx, hb, hml, hown, hts⟩ (mt_X6_isKept l G base h) (cwV 2 hts gX6_valueAt_X6_isKept rfl rfl rfl (by decide +kernel) ⟨Nat.le_of_ble_eq_true rfl, Nat.le_of_ble_eq_true rfl⟩) (xp_V hbase hh hK hX hS (ci := 6) g5 (by decide) rfl) rfl rfl hl.1 rfl (lv_room (Nat.le_of_ble_eq_true rfl)) dX6_valueAt_16 ⟨Nat.le_of_ble_eq_true rfl, Nat.le_of_ble_eq_true rfl⟩) hS (fun r6 m7 H locs h hh hS => ?_)
    refine lv_if_eq (tgt := 26) hx hb dX6_valueAt_19 (by decide) (fun c8 => ?_) (fun c8 => ?_)
    · replace h := h.1 c8
      refine lv_iconst (v := 2) hx hb dX6_valueAt_26 (by decide) ?_
      obtain ⟨g9, h⟩ := h
      refine xc_i (va_runV (As := [.int (2 : Int32)]) (rest := []) ⟨hx, hb, hml, hown, hts⟩ (mt_X6_can l G base h) (cwV 1 hts gX6_valueAt_X6_can rfl rfl rfl (by decide +kernel) ⟨Nat.le_of_ble_eq_true rfl, Nat.le_of_ble_eq_true rfl⟩) (xp_V hbase hh hK hX hS (ci := 6) g9 (by decide) rfl) rfl rfl hl.1 rfl (lv_room (Nat.le_of_ble_eq_true rfl)) dX6_valueAt_27 ⟨Nat.le_of_ble_eq_true rfl, Nat.le_of_ble_eq_true rfl⟩) hS (fun r10 m11 H locs h hh hS => ?_)
      refine lv_if_eq (tgt := 47) hx hb dX6_valueAt_30 (by decide) (fun c12 => ?_) (fun c12 => ?_)
      · replace h := h.1 c12
        refine lv_iconst (v := 0) hx hb dX6_valueAt_47 (by decide) ?_
        exact (xe_i hx hb hr hlocks hbase hh hK hX hS h (Nat.le_of_ble_eq_true rfl) (Nat.le_of_ble_eq_true rfl) dX6_valueAt_48)
      · replace h := h.2 c12
        refine lv_aload_n hx hb dX6_valueAt_33 rfl (lv_at hl 0 rfl) ?_
        obtain ⟨g13, h⟩ := h
        obtain ⟨b14, eb14, h⟩ := h
        refine xr_getR (ci := 6) (C := RX6) (T := TX6) (N := 17) hx hb hL6 hown hK hh g13 (by decide) rfl 8 128 rfl rfl (by decide) (by decide) q2 (fun _ h9 => h9) eb14 dX6_valueAt_34 ?_
        refine lv_aload_n hx hb dX6_valueAt_37 rfl (lv_at hl 0 rfl) ?_
        refine lv_iload_n hx hb dX6_valueAt_38 rfl (lv_at hl 1 rfl) ?_
        refine lv_iload_n hx hb dX6_valueAt_39 rfl (lv_at hl 2 rfl) ?_
        obtain ⟨g15, h⟩ := h
        refine xc_i (va_runV (As := [.int p1, .int p2]) (rest := [.ref b14]) ⟨hx, hb, hml, hown, hts⟩ (mt_X6_place l G base h) (cwV 2 hts gX6_valueAt_X6_place rfl rfl rfl (by decide +kernel) ⟨Nat.le_of_ble_eq_true rfl, Nat.le_of_ble_eq_true rfl⟩) (xp_V hbase hh hK hX hS (ci := 6) g15 (by decide) rfl) rfl rfl hl.1 rfl (lv_room (Nat.le_of_ble_eq_true rfl)) dX6_valueAt_40 ⟨Nat.le_of_ble_eq_true rfl, Nat.le_of_ble_eq_true rfl⟩) hS (fun r16 m17 H locs h hh hS => ?_)
        obtain ⟨g18, h⟩ := h
        obtain ⟨g19, h⟩ := h
        refine xr_iald hx hb hK hh g18 g19 dX6_valueAt_43 ?_
        refine lv_goto (tgt := 48) hx hb dX6_valueAt_44 (by decide) ?_
        exact (xe_i hx hb hr hlocks hbase hh hK hX hS h (Nat.le_of_ble_eq_true rfl) (Nat.le_of_ble_eq_true rfl) dX6_valueAt_48)
    · replace h := h.2 c8
      refine lv_iconst (v := 0) hx hb dX6_valueAt_22 (by decide) ?_
      refine lv_goto (tgt := 27) hx hb dX6_valueAt_23 (by decide) ?_
      obtain ⟨g20, h⟩ := h
      refine xc_i (va_runV (As := [.int (0 : Int32)]) (rest := []) ⟨hx, hb, hml, hown, hts⟩ (mt_X6_can l G base h) (cwV 1 hts gX6_valueAt_X6_can rfl rfl rfl (by decide +kernel) ⟨Nat.le_of_ble_eq_true rfl, Nat.le_of_ble_eq_true rfl⟩) (xp_V hbase hh hK hX hS (ci := 6) g20 (by decide) rfl) rfl rfl hl.1 rfl (lv_room (Nat.le_of_ble_eq_true rfl)) dX6_valueAt_27 ⟨Nat.le_of_ble_eq_true rfl, Nat.le_of_ble_eq_true rfl⟩) hS (fun r21 m22 H locs h hh hS => ?_)
      refine lv_if_eq (tgt := 47) hx hb dX6_valueAt_30 (by decide) (fun c23 => ?_) (fun c23 => ?_)
      · replace h := h.1 c23
        refine lv_iconst (v := 0) hx hb dX6_valueAt_47 (by decide) ?_
        exact (xe_i hx hb hr hlocks hbase hh hK hX hS h (Nat.le_of_ble_eq_true rfl) (Nat.le_of_ble_eq_true rfl) dX6_valueAt_48)
      · replace h := h.2 c23
        refine lv_aload_n hx hb dX6_valueAt_33 rfl (lv_at hl 0 rfl) ?_
        obtain ⟨g24, h⟩ := h
        obtain ⟨b25, eb25, h⟩ := h
        refine xr_getR (ci := 6) (C := RX6) (T := TX6) (N := 17) hx hb hL6 hown hK hh g24 (by decide) rfl 8 128 rfl rfl (by decide) (by decide) q2 (fun _ h9 => h9) eb25 dX6_valueAt_34 ?_
        refine lv_aload_n hx hb dX6_valueAt_37 rfl (lv_at hl 0 rfl) ?_
        refine lv_iload_n hx hb dX6_valueAt_38 rfl (lv_at hl 1 rfl) ?_
        refine lv_iload_n hx hb dX6_valueAt_39 rfl (lv_at hl 2 rfl) ?_
        obtain ⟨g26, h⟩ := h
        refine xc_i (va_runV (As := [.int p1, .int p2]) (rest := [.ref b25]) ⟨hx, hb, hml, hown, hts⟩ (mt_X6_place l G base h) (cwV 2 hts gX6_valueAt_X6_place rfl rfl rfl (by decide +kernel) ⟨Nat.le_of_ble_eq_true rfl, Nat.le_of_ble_eq_true rfl⟩) (xp_V hbase hh hK hX hS (ci := 6) g26 (by decide) rfl) rfl rfl hl.1 rfl (lv_room (Nat.le_of_ble_eq_true rfl)) dX6_valueAt_40 ⟨Nat.le_of_ble_eq_true rfl, Nat.le_of_ble_eq_true rfl⟩) hS (fun r27 m28 H locs h hh hS => ?_)
        obtain ⟨g29, h⟩ := h
        obtain ⟨g30, h⟩ := h
        refine xr_iald hx hb hK hh g29 g30 dX6_valueAt_43 ?_
        refine lv_goto (tgt := 48) hx hb dX6_valueAt_44 (by decide) ?_
        exact (xe_i hx hb hr hlocks hbase hh hK hX hS h (Nat.le_of_ble_eq_true rfl) (Nat.le_of_ble_eq_true rfl) dX6_valueAt_48)
  · replace h := h.2 c4
    refine lv_iconst (v := 1) hx hb dX6_valueAt_9 (by decide) ?_
    refine lv_goto (tgt := 27) hx hb dX6_valueAt_10 (by decide) ?_
    obtain ⟨g31, h⟩ := h
    refine xc_i (va_runV (As := [.int (1 : Int32)]) (rest := []) ⟨hx, hb, hml, hown, hts⟩ (mt_X6_can l G base h) (cwV 1 hts gX6_valueAt_X6_can rfl rfl rfl (by decide +kernel) ⟨Nat.le_of_ble_eq_true rfl, Nat.le_of_ble_eq_true rfl⟩) (xp_V hbase hh hK hX hS (ci := 6) g31 (by decide) rfl) rfl rfl hl.1 rfl (lv_room (Nat.le_of_ble_eq_true rfl)) dX6_valueAt_27 ⟨Nat.le_of_ble_eq_true rfl, Nat.le_of_ble_eq_true rfl⟩) hS (fun r32 m33 H locs h hh hS => ?_)
    refine lv_if_eq (tgt := 47) hx hb dX6_valueAt_30 (by decide) (fun c34 => ?_) (fun c34 => ?_)
    · replace h := h.1 c34
      refine lv_iconst (v := 0) hx hb dX6_valueAt_47 (by decide) ?_
      exact (xe_i hx hb hr hlocks hbase hh hK hX hS h (Nat.le_of_ble_eq_true rfl) (Nat.le_of_ble_eq_true rfl) dX6_valueAt_48)
    · replace h := h.2 c34
      refine lv_aload_n hx hb dX6_valueAt_33 rfl (lv_at hl 0 rfl) ?_
      obtain ⟨g35, h⟩ := h
      obtain ⟨b36, eb36, h⟩ := h
      refine xr_getR (ci := 6) (C := RX6) (T := TX6) (N := 17) hx hb hL6 hown hK hh g35 (by decide) rfl 8 128 rfl rfl (by decide) (by decide) q2 (fun _ h9 => h9) eb36 dX6_valueAt_34 ?_
      refine lv_aload_n hx hb dX6_valueAt_37 rfl (lv_at hl 0 rfl) ?_
      refine lv_iload_n hx hb dX6_valueAt_38 rfl (lv_at hl 1 rfl) ?_
      refine lv_iload_n hx hb dX6_valueAt_39 rfl (lv_at hl 2 rfl) ?_
      obtain ⟨g37, h⟩ := h
      refine xc_i (va_runV (As := [.int p1, .int p2]) (rest := [.ref b36]) ⟨hx, hb, hml, hown, hts⟩ (mt_X6_place l G base h) (cwV 2 hts gX6_valueAt_X6_place rfl rfl rfl (by decide +kernel) ⟨Nat.le_of_ble_eq_true rfl, Nat.le_of_ble_eq_true rfl⟩) (xp_V hbase hh hK hX hS (ci := 6) g37 (by decide) rfl) rfl rfl hl.1 rfl (lv_room (Nat.le_of_ble_eq_true rfl)) dX6_valueAt_40 ⟨Nat.le_of_ble_eq_true rfl, Nat.le_of_ble_eq_true rfl⟩) hS (fun r38 m39 H locs h hh hS => ?_)
      obtain ⟨g40, h⟩ := h
      obtain ⟨g41, h⟩ := h
      refine xr_iald hx hb hK hh g40 g41 dX6_valueAt_43 ?_
      refine lv_goto (tgt := 48) hx hb dX6_valueAt_44 (by decide) ?_
      exact (xe_i hx hb hr hlocks hbase hh hK hX hS h (Nat.le_of_ble_eq_true rfl) (Nat.le_of_ble_eq_true rfl) dX6_valueAt_48)

set_option maxHeartbeats 4000000 in
set_option maxRecDepth 100000 in
theorem mt_X6_isRolled (l : Launch) (G : GG) (base : Nat) {p1 : Int32} {m0 : MM} {Q : Int32 → MM → Prop} (h : wp_X6_isRolled p1 m0 Q) : Met l yX6_isRolled wsX6_isRolled ({ frames := 0, cells := 0, slots := 0, locals := 8 }) (va_Pc [.int p1] (SP G base m0)) (va_Qi Q (HB G base) (xA base)) 0 0 (xA base) := by
  refine Met.ofW (cc := cX6_isRolled) (maxL := 1) (ret := (some .boolean)) (by decide) rfl ?_
  intro p e s m args below meth c s₁ B hml hv
  obtain ⟨rfl, hbase, hh, hK, hX⟩ := hv
  have C0 : BC p s m _ meth c G base RX6 cX6_isRolled 1 (some .boolean) wsX6_isRolled := ⟨B.exec, B.bytes, B.returns, hml, findClass_of_methodNamed B.named, atoms_spec (ws := wsX6_isRolled) B.pre, B.notSynchronized, hK, hbase, hX⟩
  obtain ⟨hx, hb, hr, -, hown, hts, hlocks, -, -, -⟩ := id C0
  have hS : va_S (xA base) s.heap s.heap [] := va_S.rf
  have hl := lv_entry ([.int p1]) (n := 1) (Nat.le_of_ble_eq_true rfl)
  rw [lg_entry_eq]
  generalize (lg_sl ([.int p1]) ++ List.replicate (1 - (lg_sl ([.int p1])).length) Slot.unset).toArray = ls at hl ⊢
  have hl : lv_has ls 1 [(0, .int p1)] := hl
  unfold wp_X6_isRolled at h
  refine lv_iload_n hx hb dX6_isRolled_0 rfl (lv_at hl 0 rfl) ?_
  refine lv_iconst (v := 1) hx hb dX6_isRolled_1 (by decide) ?_
  refine lv_icmp_lt (tgt := 14) hx hb dX6_isRolled_2 (by decide) (fun c1 => ?_) (fun c1 => ?_)
  · replace h := h.1 c1
    refine lv_iconst (v := 0) hx hb dX6_isRolled_14 (by decide) ?_
    exact (xe_z hx hb hr hlocks hbase hh hK hX hS (Or.inl rfl) h (Nat.le_of_ble_eq_true rfl) (Nat.le_of_ble_eq_true rfl) dX6_isRolled_15)
  · replace h := h.2 c1
    refine lv_iload_n hx hb dX6_isRolled_5 rfl (lv_at hl 0 rfl) ?_
    refine lv_iconst (v := 3) hx hb dX6_isRolled_6 (by decide) ?_
    refine lv_icmp_gt (tgt := 14) hx hb dX6_isRolled_7 (by decide) (fun c2 => ?_) (fun c2 => ?_)
    · replace h := h.1 c2
      refine lv_iconst (v := 0) hx hb dX6_isRolled_14 (by decide) ?_
      exact (xe_z hx hb hr hlocks hbase hh hK hX hS (Or.inl rfl) h (Nat.le_of_ble_eq_true rfl) (Nat.le_of_ble_eq_true rfl) dX6_isRolled_15)
    · replace h := h.2 c2
      refine lv_iconst (v := 1) hx hb dX6_isRolled_10 (by decide) ?_
      refine lv_goto (tgt := 15) hx hb dX6_isRolled_11 (by decide) ?_
      exact (xe_z hx hb hr hlocks hbase hh hK hX hS (Or.inr rfl) h (Nat.le_of_ble_eq_true rfl) (Nat.le_of_ble_eq_true rfl) dX6_isRolled_15)

set_option maxHeartbeats 4000000 in
set_option maxRecDepth 100000 in
theorem bk_X6_looks_214 {p : Program} {l : Launch} {e : Env} {s : State} {m : MethodId} {args : Array Value} {below : List Frame} {meth : Method} {c : Code} {G : GG} {base : Nat} (C0 : BC p s m args meth c G base RX6 cX6_looks 6 (some .boolean) wsX6_looks) {Q : Int32 → MM → Prop} : ∀ (l0 : Nat) (m0 : MM) (H : Heap) (locs : List Loc) (ls : Array Slot), wp_X6_looks_214 Q l0 m0 → hp G (xA base) m0 H → va_S (xA base) s.heap H locs → lv_has ls 6 [(0, .ref l0)] → W p l e ({ frames := 2, cells := 0, slots := 0, locals := 51 } : Room) s m args below meth c H locs 0 0 (MQ below (va_Qi Q (HB G base) (xA base)) args s 0 0 (xA base)) (F0 m 214 ls []) := by
  obtain ⟨hx, hb, hr, hml, hown, hts, hlocks, hK, hbase, hX⟩ := id C0
  intro l0 m0 H locs ls h hh hS hl
  unfold wp_X6_looks_214 at h
  have hL6 : ∀ w ∈ u_ws RX6 TX6 17, w.before _ s = true := fun w h9 => hts w (List.mem_cons_of_mem _ (List.mem_append_right _ (h9)))
  have q2 : (Cond.fieldLink RX6 114 "RollupStoreModel" "many" "I").before _ s = true := hts _ (List.mem_cons_of_mem _ (List.mem_append_left _ (List.mem_of_getElem? (i := 0) rfl)))
  refine lv_aload_n hx hb dX6_looks_214 rfl (lv_at hl 0 rfl) ?_
  obtain ⟨g10, h⟩ := h
  refine xr_getI (ci := 6) (C := RX6) (T := TX6) (N := 17) hx hb hL6 hown hK hh g10 (by decide) rfl 9 129 rfl rfl (by decide) (by decide) q2 (fun _ h9 => h9) dX6_looks_215 ?_
  refine lv_if_le (tgt := 225) hx hb dX6_looks_218 (by decide) (fun c11 => ?_) (fun c11 => ?_)
  · replace h := h.1 c11
    refine lv_iconst (v := 0) hx hb dX6_looks_225 (by decide) ?_
    exact (xe_z hx hb hr hlocks hbase hh hK hX hS (Or.inl rfl) h (Nat.le_of_ble_eq_true rfl) (Nat.le_of_ble_eq_true rfl) dX6_looks_226)
  · replace h := h.2 c11
    refine lv_iconst (v := 1) hx hb dX6_looks_221 (by decide) ?_
    refine lv_goto (tgt := 226) hx hb dX6_looks_222 (by decide) ?_
    exact (xe_z hx hb hr hlocks hbase hh hK hX hS (Or.inr rfl) h (Nat.le_of_ble_eq_true rfl) (Nat.le_of_ble_eq_true rfl) dX6_looks_226)

set_option maxHeartbeats 4000000 in
set_option maxRecDepth 100000 in
theorem bk_X6_looks_167 {p : Program} {l : Launch} {e : Env} {s : State} {m : MethodId} {args : Array Value} {below : List Frame} {meth : Method} {c : Code} {G : GG} {base : Nat} (C0 : BC p s m args meth c G base RX6 cX6_looks 6 (some .boolean) wsX6_looks) {Q : Int32 → MM → Prop} {K : Nat → Int32 → Int32 → Int32 → Int32 → MM → Prop} (hK9 : ∀ (l0 : Nat) (l1 : Int32) (l2 : Int32) (l4 : Int32) (l5 : Int32) (m0 : MM) (H : Heap) (locs : List Loc) (ls : Array Slot), K l0 l1 l2 l4 l5 m0 → hp G (xA base) m0 H → va_S (xA base) s.heap H locs → lv_has ls 6 [(0, .ref l0), (1, .int l1), (2, .int l2), (4, .int l4), (5, .int l5)] → W p l e ({ frames := 2, cells := 0, slots := 0, locals := 51 } : Room) s m args below meth c H locs 0 0 (MQ below (va_Qi Q (HB G base) (xA base)) args s 0 0 (xA base)) (F0 m 20 ls [])) : ∀ (l0 : Nat) (l1 : Int32) (l2 : Int32) (l4 : Int32) (l5 : Int32) (s0 : Int32) (s1 : Nat) (m0 : MM) (H : Heap) (locs : List Loc) (ls : Array Slot), wp_X6_looks_167 Q K l0 l1 l2 l4 l5 s0 s1 m0 → hp G (xA base) m0 H → va_S (xA base) s.heap H locs → lv_has ls 6 [(0, .ref l0), (1, .int l1), (2, .int l2), (4, .int l4), (5, .int l5)] → W p l e ({ frames := 2, cells := 0, slots := 0, locals := 51 } : Room) s m args below meth c H locs 0 0 (MQ below (va_Qi Q (HB G base) (xA base)) args s 0 0 (xA base)) (F0 m 167 ls [.int s0, .ref s1]) := by
  obtain ⟨hx, hb, hr, hml, hown, hts, hlocks, hK, hbase, hX⟩ := id C0
  intro l0 l1 l2 l4 l5 s0 s1 m0 H locs ls h hh hS hl
  unfold wp_X6_looks_167 at h
  have hL6 : ∀ w ∈ u_ws RX6 TX6 17, w.before _ s = true := fun w h9 => hts w (List.mem_cons_of_mem _ (List.mem_append_right _ (h9)))
  have q2 : (Cond.fieldLink RX6 127 "RollupStoreModel" "first" "I").before _ s = true := hts _ (List.mem_cons_of_mem _ (List.mem_append_left _ (List.mem_of_getElem? (i := 8) rfl)))
  have q3 : (Cond.fieldLink RX6 25 "RollupStoreModel" "value" "[I").before _ s = true := hts _ (List.mem_cons_of_mem _ (List.mem_append_left _ (List.mem_of_getElem? (i := 5) rfl)))
  have q4 : (Cond.fieldLink RX6 130 "RollupStoreModel" "last" "I").before _ s = true := hts _ (List.mem_cons_of_mem _ (List.mem_append_left _ (List.mem_of_getElem? (i := 9) rfl)))
  have q5 : (Cond.fieldLink RX6 117 "RollupStoreModel" "sum" "J").before _ s = true := hts _ (List.mem_cons_of_mem _ (List.mem_append_left _ (List.mem_of_getElem? (i := 1) rfl)))
  have q6 : (Cond.fieldLink RX6 114 "RollupStoreModel" "many" "I").before _ s = true := hts _ (List.mem_cons_of_mem _ (List.mem_append_left _ (List.mem_of_getElem? (i := 0) rfl)))
  obtain ⟨g49, h⟩ := h
  refine xr_putI (ci := 6) (C := RX6) (T := TX6) (N := 17) hx hb hL6 hown hK hh g49 (by decide) rfl 13 133 rfl rfl (by decide) (by decide) q2 (fun _ h9 => h9) tyX6 tyX6_ok nmX6 rfl rfl rfl hS dX6_looks_167 (fun H locs hh hS => ?_)
  obtain ⟨m50, em50⟩ : ∃ z : MM, z = sI m0 133 s1 s0 := ⟨_, rfl⟩
  rw [← em50] at hh
  replace h := h m50 em50
  refine lv_aload_n hx hb dX6_looks_170 rfl (lv_at hl 0 rfl) ?_
  refine lv_aload_n hx hb dX6_looks_171 rfl (lv_at hl 0 rfl) ?_
  obtain ⟨g51, h⟩ := h
  obtain ⟨b52, eb52, h⟩ := h
  refine xr_getR (ci := 6) (C := RX6) (T := TX6) (N := 17) hx hb hL6 hown hK hh g51 (by decide) rfl 8 128 rfl rfl (by decide) (by decide) q3 (fun _ h9 => h9) eb52 dX6_looks_172 ?_
  refine lv_iload hx hb dX6_looks_175 (lv_at hl 4 rfl) ?_
  obtain ⟨g53, h⟩ := h
  obtain ⟨g54, h⟩ := h
  refine xr_iald hx hb hK hh g53 g54 dX6_looks_177 ?_
  obtain ⟨g55, h⟩ := h
  refine xr_putI (ci := 6) (C := RX6) (T := TX6) (N := 17) hx hb hL6 hown hK hh g55 (by decide) rfl 14 134 rfl rfl (by decide) (by decide) q4 (fun _ h9 => h9) tyX6 tyX6_ok nmX6 rfl rfl rfl hS dX6_looks_178 (fun H locs hh hS => ?_)
  obtain ⟨m56, em56⟩ : ∃ z : MM, z = sI m50 134 l0 (mAI m50 b52 l5.toNatClampNeg) := ⟨_, rfl⟩
  rw [← em56] at hh
  replace h := h m56 em56
  refine lv_aload_n hx hb dX6_looks_181 rfl (lv_at hl 0 rfl) ?_
  refine lv_dup hx hb dX6_looks_182 rfl ?_
  obtain ⟨g57, h⟩ := h
  refine xr_getJ (ci := 6) (C := RX6) (T := TX6) (N := 17) hx hb hL6 hown hK hh g57 (by decide) rfl 10 130 rfl rfl (by decide) (by decide) q5 (fun _ h9 => h9) dX6_looks_183 ?_
  refine lv_aload_n hx hb dX6_looks_186 rfl (lv_at hl 0 rfl) ?_
  obtain ⟨g58, h⟩ := h
  obtain ⟨b59, eb59, h⟩ := h
  refine xr_getR (ci := 6) (C := RX6) (T := TX6) (N := 17) hx hb hL6 hown hK hh g58 (by decide) rfl 8 128 rfl rfl (by decide) (by decide) q3 (fun _ h9 => h9) eb59 dX6_looks_187 ?_
  refine lv_iload hx hb dX6_looks_190 (lv_at hl 4 rfl) ?_
  obtain ⟨g60, h⟩ := h
  obtain ⟨g61, h⟩ := h
  refine xr_iald hx hb hK hh g60 g61 dX6_looks_192 ?_
  refine lv_i2l hx hb dX6_looks_193 rfl ?_
  refine lv_ladd hx hb dX6_looks_194 ?_
  obtain ⟨g62, h⟩ := h
  refine xr_putJ (ci := 6) (C := RX6) (T := TX6) (N := 17) hx hb hL6 hown hK hh g62 (by decide) rfl 10 130 rfl rfl (by decide) (by decide) q5 (fun _ h9 => h9) tyX6 tyX6_ok nmX6 rfl rfl rfl hS dX6_looks_195 (fun H locs hh hS => ?_)
  obtain ⟨m63, em63⟩ : ∃ z : MM, z = sJ m56 130 l0 ((mJ m56 130 l0) + (mAI m56 b59 l5.toNatClampNeg).toInt64) := ⟨_, rfl⟩
  rw [← em63] at hh
  replace h := h m63 em63
  refine lv_aload_n hx hb dX6_looks_198 rfl (lv_at hl 0 rfl) ?_
  refine lv_dup hx hb dX6_looks_199 rfl ?_
  obtain ⟨g64, h⟩ := h
  refine xr_getI (ci := 6) (C := RX6) (T := TX6) (N := 17) hx hb hL6 hown hK hh g64 (by decide) rfl 9 129 rfl rfl (by decide) (by decide) q6 (fun _ h9 => h9) dX6_looks_200 ?_
  refine lv_iconst (v := 1) hx hb dX6_looks_203 (by decide) ?_
  refine lv_iadd hx hb dX6_looks_204 ?_
  obtain ⟨g65, h⟩ := h
  refine xr_putI (ci := 6) (C := RX6) (T := TX6) (N := 17) hx hb hL6 hown hK hh g65 (by decide) rfl 9 129 rfl rfl (by decide) (by decide) q6 (fun _ h9 => h9) tyX6 tyX6_ok nmX6 rfl rfl rfl hS dX6_looks_205 (fun H locs hh hS => ?_)
  obtain ⟨m66, em66⟩ : ∃ z : MM, z = sI m63 129 l0 ((mI m63 129 l0) + (1 : Int32)) := ⟨_, rfl⟩
  rw [← em66] at hh
  replace h := h m66 em66
  obtain ⟨x67, ex67⟩ : ∃ y : Int32, y = l5 + 1 := ⟨_, rfl⟩
  replace h := h x67 ex67
  refine lv_iinc (v := x67) (lv' := [(5, .int x67), (0, .ref l0), (1, .int l1), (2, .int l2), (4, .int l4)]) hx hb dX6_looks_208 hl (k := 4) rfl (by rw [ex67]; rfl) (by decide) rfl (fun ls hl => ?_)
  refine lv_goto (tgt := 20) hx hb dX6_looks_211 (by decide) ?_
  exact hK9 _ _ _ _ _ _ _ _ _ h hh hS (lv_sub hl [1, 2, 3, 4, 0] rfl)

set_option maxHeartbeats 4000000 in
set_option maxRecDepth 100000 in
theorem bk_X6_looks_142 {p : Program} {l : Launch} {e : Env} {s : State} {m : MethodId} {args : Array Value} {below : List Frame} {meth : Method} {c : Code} {G : GG} {base : Nat} (C0 : BC p s m args meth c G base RX6 cX6_looks 6 (some .boolean) wsX6_looks) {Q : Int32 → MM → Prop} {K : Nat → Int32 → Int32 → Int32 → Int32 → MM → Prop} (hK9 : ∀ (l0 : Nat) (l1 : Int32) (l2 : Int32) (l4 : Int32) (l5 : Int32) (m0 : MM) (H : Heap) (locs : List Loc) (ls : Array Slot), K l0 l1 l2 l4 l5 m0 → hp G (xA base) m0 H → va_S (xA base) s.heap H locs → lv_has ls 6 [(0, .ref l0), (1, .int l1), (2, .int l2), (4, .int l4), (5, .int l5)] → W p l e ({ frames := 2, cells := 0, slots := 0, locals := 51 } : Room) s m args below meth c H locs 0 0 (MQ below (va_Qi Q (HB G base) (xA base)) args s 0 0 (xA base)) (F0 m 20 ls [])) : ∀ (l0 : Nat) (l1 : Int32) (l2 : Int32) (l4 : Int32) (l5 : Int32) (s0 : Int32) (s1 : Nat) (m0 : MM) (H : Heap) (locs : List Loc) (ls : Array Slot), wp_X6_looks_142 Q K l0 l1 l2 l4 l5 s0 s1 m0 → hp G (xA base) m0 H → va_S (xA base) s.heap H locs → lv_has ls 6 [(0, .ref l0), (1, .int l1), (2, .int l2), (4, .int l4), (5, .int l5)] → W p l e ({ frames := 2, cells := 0, slots := 0, locals := 51 } : Room) s m args below meth c H locs 0 0 (MQ below (va_Qi Q (HB G base) (xA base)) args s 0 0 (xA base)) (F0 m 142 ls [.int s0, .ref s1]) := by
  obtain ⟨hx, hb, hr, hml, hown, hts, hlocks, hK, hbase, hX⟩ := id C0
  intro l0 l1 l2 l4 l5 s0 s1 m0 H locs ls h hh hS hl
  unfold wp_X6_looks_142 at h
  have hL6 : ∀ w ∈ u_ws RX6 TX6 17, w.before _ s = true := fun w h9 => hts w (List.mem_cons_of_mem _ (List.mem_append_right _ (h9)))
  have q2 : (Cond.fieldLink RX6 124 "RollupStoreModel" "greatest" "I").before _ s = true := hts _ (List.mem_cons_of_mem _ (List.mem_append_left _ (List.mem_of_getElem? (i := 7) rfl)))
  have q3 : (Cond.fieldLink RX6 114 "RollupStoreModel" "many" "I").before _ s = true := hts _ (List.mem_cons_of_mem _ (List.mem_append_left _ (List.mem_of_getElem? (i := 0) rfl)))
  have q4 : (Cond.fieldLink RX6 127 "RollupStoreModel" "first" "I").before _ s = true := hts _ (List.mem_cons_of_mem _ (List.mem_append_left _ (List.mem_of_getElem? (i := 8) rfl)))
  have q5 : (Cond.fieldLink RX6 25 "RollupStoreModel" "value" "[I").before _ s = true := hts _ (List.mem_cons_of_mem _ (List.mem_append_left _ (List.mem_of_getElem? (i := 5) rfl)))
  obtain ⟨g44, h⟩ := h
  refine xr_putI (ci := 6) (C := RX6) (T := TX6) (N := 17) hx hb hL6 hown hK hh g44 (by decide) rfl 12 132 rfl rfl (by decide) (by decide) q2 (fun _ h9 => h9) tyX6 tyX6_ok nmX6 rfl rfl rfl hS dX6_looks_142 (fun H locs hh hS => ?_)
  obtain ⟨m45, em45⟩ : ∃ z : MM, z = sI m0 132 s1 s0 := ⟨_, rfl⟩
  rw [← em45] at hh
  replace h := h m45 em45
  refine lv_aload_n hx hb dX6_looks_145 rfl (lv_at hl 0 rfl) ?_
  refine lv_aload_n hx hb dX6_looks_146 rfl (lv_at hl 0 rfl) ?_
  obtain ⟨g46, h⟩ := h
  refine xr_getI (ci := 6) (C := RX6) (T := TX6) (N := 17) hx hb hL6 hown hK hh g46 (by decide) rfl 9 129 rfl rfl (by decide) (by decide) q3 (fun _ h9 => h9) dX6_looks_147 ?_
  refine lv_if_ne (tgt := 163) hx hb dX6_looks_150 (by decide) (fun c47 => ?_) (fun c47 => ?_)
  · replace h := h.1 c47
    refine lv_aload_n hx hb dX6_looks_163 rfl (lv_at hl 0 rfl) ?_
    obtain ⟨g48, h⟩ := h
    refine xr_getI (ci := 6) (C := RX6) (T := TX6) (N := 17) hx hb hL6 hown hK hh g48 (by decide) rfl 13 133 rfl rfl (by decide) (by decide) q4 (fun _ h9 => h9) dX6_looks_164 ?_
    exact bk_X6_looks_167 C0  (K := K) hK9 _ _ _ _ _ _ _ _ _ _ _ h hh hS (lv_sub hl [0, 1, 2, 3, 4] rfl)
  · replace h := h.2 c47
    refine lv_aload_n hx hb dX6_looks_153 rfl (lv_at hl 0 rfl) ?_
    obtain ⟨g68, h⟩ := h
    obtain ⟨b69, eb69, h⟩ := h
    refine xr_getR (ci := 6) (C := RX6) (T := TX6) (N := 17) hx hb hL6 hown hK hh g68 (by decide) rfl 8 128 rfl rfl (by decide) (by decide) q5 (fun _ h9 => h9) eb69 dX6_looks_154 ?_
    refine lv_iload hx hb dX6_looks_157 (lv_at hl 4 rfl) ?_
    obtain ⟨g70, h⟩ := h
    obtain ⟨g71, h⟩ := h
    refine xr_iald hx hb hK hh g70 g71 dX6_looks_159 ?_
    refine lv_goto (tgt := 167) hx hb dX6_looks_160 (by decide) ?_
    exact bk_X6_looks_167 C0  (K := K) hK9 _ _ _ _ _ _ _ _ _ _ _ h hh hS (lv_sub hl [0, 1, 2, 3, 4] rfl)

set_option maxHeartbeats 4000000 in
set_option maxRecDepth 100000 in
theorem bk_X6_looks_128 {p : Program} {l : Launch} {e : Env} {s : State} {m : MethodId} {args : Array Value} {below : List Frame} {meth : Method} {c : Code} {G : GG} {base : Nat} (C0 : BC p s m args meth c G base RX6 cX6_looks 6 (some .boolean) wsX6_looks) {Q : Int32 → MM → Prop} {K : Nat → Int32 → Int32 → Int32 → Int32 → MM → Prop} (hK9 : ∀ (l0 : Nat) (l1 : Int32) (l2 : Int32) (l4 : Int32) (l5 : Int32) (m0 : MM) (H : Heap) (locs : List Loc) (ls : Array Slot), K l0 l1 l2 l4 l5 m0 → hp G (xA base) m0 H → va_S (xA base) s.heap H locs → lv_has ls 6 [(0, .ref l0), (1, .int l1), (2, .int l2), (4, .int l4), (5, .int l5)] → W p l e ({ frames := 2, cells := 0, slots := 0, locals := 51 } : Room) s m args below meth c H locs 0 0 (MQ below (va_Qi Q (HB G base) (xA base)) args s 0 0 (xA base)) (F0 m 20 ls [])) : ∀ (l0 : Nat) (l1 : Int32) (l2 : Int32) (l4 : Int32) (l5 : Int32) (s0 : Nat) (m0 : MM) (H : Heap) (locs : List Loc) (ls : Array Slot), wp_X6_looks_128 Q K l0 l1 l2 l4 l5 s0 m0 → hp G (xA base) m0 H → va_S (xA base) s.heap H locs → lv_has ls 6 [(0, .ref l0), (1, .int l1), (2, .int l2), (4, .int l4), (5, .int l5)] → W p l e ({ frames := 2, cells := 0, slots := 0, locals := 51 } : Room) s m args below meth c H locs 0 0 (MQ below (va_Qi Q (HB G base) (xA base)) args s 0 0 (xA base)) (F0 m 128 ls [.ref s0]) := by
  obtain ⟨hx, hb, hr, hml, hown, hts, hlocks, hK, hbase, hX⟩ := id C0
  intro l0 l1 l2 l4 l5 s0 m0 H locs ls h hh hS hl
  unfold wp_X6_looks_128 at h
  have hL6 : ∀ w ∈ u_ws RX6 TX6 17, w.before _ s = true := fun w h9 => hts w (List.mem_cons_of_mem _ (List.mem_append_right _ (h9)))
  have q2 : (Cond.fieldLink RX6 25 "RollupStoreModel" "value" "[I").before _ s = true := hts _ (List.mem_cons_of_mem _ (List.mem_append_left _ (List.mem_of_getElem? (i := 5) rfl)))
  refine lv_aload_n hx hb dX6_looks_128 rfl (lv_at hl 0 rfl) ?_
  obtain ⟨g40, h⟩ := h
  obtain ⟨b41, eb41, h⟩ := h
  refine xr_getR (ci := 6) (C := RX6) (T := TX6) (N := 17) hx hb hL6 hown hK hh g40 (by decide) rfl 8 128 rfl rfl (by decide) (by decide) q2 (fun _ h9 => h9) eb41 dX6_looks_129 ?_
  refine lv_iload hx hb dX6_looks_132 (lv_at hl 4 rfl) ?_
  obtain ⟨g42, h⟩ := h
  obtain ⟨g43, h⟩ := h
  refine xr_iald hx hb hK hh g42 g43 dX6_looks_134 ?_
  refine lv_goto (tgt := 142) hx hb dX6_looks_135 (by decide) ?_
  exact bk_X6_looks_142 C0  (K := K) hK9 _ _ _ _ _ _ _ _ _ _ _ h hh hS (lv_sub hl [0, 1, 2, 3, 4] rfl)

set_option maxHeartbeats 4000000 in
set_option maxRecDepth 100000 in
theorem bk_X6_looks_103 {p : Program} {l : Launch} {e : Env} {s : State} {m : MethodId} {args : Array Value} {below : List Frame} {meth : Method} {c : Code} {G : GG} {base : Nat} (C0 : BC p s m args meth c G base RX6 cX6_looks 6 (some .boolean) wsX6_looks) {Q : Int32 → MM → Prop} {K : Nat → Int32 → Int32 → Int32 → Int32 → MM → Prop} (hK9 : ∀ (l0 : Nat) (l1 : Int32) (l2 : Int32) (l4 : Int32) (l5 : Int32) (m0 : MM) (H : Heap) (locs : List Loc) (ls : Array Slot), K l0 l1 l2 l4 l5 m0 → hp G (xA base) m0 H → va_S (xA base) s.heap H locs → lv_has ls 6 [(0, .ref l0), (1, .int l1), (2, .int l2), (4, .int l4), (5, .int l5)] → W p l e ({ frames := 2, cells := 0, slots := 0, locals := 51 } : Room) s m args below meth c H locs 0 0 (MQ below (va_Qi Q (HB G base) (xA base)) args s 0 0 (xA base)) (F0 m 20 ls [])) : ∀ (l0 : Nat) (l1 : Int32) (l2 : Int32) (l4 : Int32) (l5 : Int32) (s0 : Int32) (s1 : Nat) (m0 : MM) (H : Heap) (locs : List Loc) (ls : Array Slot), wp_X6_looks_103 Q K l0 l1 l2 l4 l5 s0 s1 m0 → hp G (xA base) m0 H → va_S (xA base) s.heap H locs → lv_has ls 6 [(0, .ref l0), (1, .int l1), (2, .int l2), (4, .int l4), (5, .int l5)] → W p l e ({ frames := 2, cells := 0, slots := 0, locals := 51 } : Room) s m args below meth c H locs 0 0 (MQ below (va_Qi Q (HB G base) (xA base)) args s 0 0 (xA base)) (F0 m 103 ls [.int s0, .ref s1]) := by
  obtain ⟨hx, hb, hr, hml, hown, hts, hlocks, hK, hbase, hX⟩ := id C0
  intro l0 l1 l2 l4 l5 s0 s1 m0 H locs ls h hh hS hl
  unfold wp_X6_looks_103 at h
  have hL6 : ∀ w ∈ u_ws RX6 TX6 17, w.before _ s = true := fun w h9 => hts w (List.mem_cons_of_mem _ (List.mem_append_right _ (h9)))
  have q2 : (Cond.fieldLink RX6 121 "RollupStoreModel" "least" "I").before _ s = true := hts _ (List.mem_cons_of_mem _ (List.mem_append_left _ (List.mem_of_getElem? (i := 6) rfl)))
  have q3 : (Cond.fieldLink RX6 114 "RollupStoreModel" "many" "I").before _ s = true := hts _ (List.mem_cons_of_mem _ (List.mem_append_left _ (List.mem_of_getElem? (i := 0) rfl)))
  have q4 : (Cond.fieldLink RX6 25 "RollupStoreModel" "value" "[I").before _ s = true := hts _ (List.mem_cons_of_mem _ (List.mem_append_left _ (List.mem_of_getElem? (i := 5) rfl)))
  have q5 : (Cond.fieldLink RX6 124 "RollupStoreModel" "greatest" "I").before _ s = true := hts _ (List.mem_cons_of_mem _ (List.mem_append_left _ (List.mem_of_getElem? (i := 7) rfl)))
  obtain ⟨g36, h⟩ := h
  refine xr_putI (ci := 6) (C := RX6) (T := TX6) (N := 17) hx hb hL6 hown hK hh g36 (by decide) rfl 11 131 rfl rfl (by decide) (by decide) q2 (fun _ h9 => h9) tyX6 tyX6_ok nmX6 rfl rfl rfl hS dX6_looks_103 (fun H locs hh hS => ?_)
  obtain ⟨m37, em37⟩ : ∃ z : MM, z = sI m0 131 s1 s0 := ⟨_, rfl⟩
  rw [← em37] at hh
  replace h := h m37 em37
  refine lv_aload_n hx hb dX6_looks_106 rfl (lv_at hl 0 rfl) ?_
  refine lv_aload_n hx hb dX6_looks_107 rfl (lv_at hl 0 rfl) ?_
  obtain ⟨g38, h⟩ := h
  refine xr_getI (ci := 6) (C := RX6) (T := TX6) (N := 17) hx hb hL6 hown hK hh g38 (by decide) rfl 9 129 rfl rfl (by decide) (by decide) q3 (fun _ h9 => h9) dX6_looks_108 ?_
  refine lv_if_eq (tgt := 128) hx hb dX6_looks_111 (by decide) (fun c39 => ?_) (fun c39 => ?_)
  · replace h := h.1 c39
    exact bk_X6_looks_128 C0  (K := K) hK9 _ _ _ _ _ _ _ _ _ _ h hh hS (lv_sub hl [0, 1, 2, 3, 4] rfl)
  · replace h := h.2 c39
    refine lv_aload_n hx hb dX6_looks_114 rfl (lv_at hl 0 rfl) ?_
    obtain ⟨g72, h⟩ := h
    obtain ⟨b73, eb73, h⟩ := h
    refine xr_getR (ci := 6) (C := RX6) (T := TX6) (N := 17) hx hb hL6 hown hK hh g72 (by decide) rfl 8 128 rfl rfl (by decide) (by decide) q4 (fun _ h9 => h9) eb73 dX6_looks_115 ?_
    refine lv_iload hx hb dX6_looks_118 (lv_at hl 4 rfl) ?_
    obtain ⟨g74, h⟩ := h
    obtain ⟨g75, h⟩ := h
    refine xr_iald hx hb hK hh g74 g75 dX6_looks_120 ?_
    refine lv_aload_n hx hb dX6_looks_121 rfl (lv_at hl 0 rfl) ?_
    obtain ⟨g76, h⟩ := h
    refine xr_getI (ci := 6) (C := RX6) (T := TX6) (N := 17) hx hb hL6 hown hK hh g76 (by decide) rfl 12 132 rfl rfl (by decide) (by decide) q5 (fun _ h9 => h9) dX6_looks_122 ?_
    refine lv_icmp_le (tgt := 138) hx hb dX6_looks_125 (by decide) (fun c77 => ?_) (fun c77 => ?_)
    · replace h := h.1 c77
      refine lv_aload_n hx hb dX6_looks_138 rfl (lv_at hl 0 rfl) ?_
      obtain ⟨g78, h⟩ := h
      refine xr_getI (ci := 6) (C := RX6) (T := TX6) (N := 17) hx hb hL6 hown hK hh g78 (by decide) rfl 12 132 rfl rfl (by decide) (by decide) q5 (fun _ h9 => h9) dX6_looks_139 ?_
      exact bk_X6_looks_142 C0  (K := K) hK9 _ _ _ _ _ _ _ _ _ _ _ h hh hS (lv_sub hl [0, 1, 2, 3, 4] rfl)
    · replace h := h.2 c77
      exact bk_X6_looks_128 C0  (K := K) hK9 _ _ _ _ _ _ _ _ _ _ h hh hS (lv_sub hl [0, 1, 2, 3, 4] rfl)

set_option maxHeartbeats 4000000 in
set_option maxRecDepth 100000 in
theorem bk_X6_looks_89 {p : Program} {l : Launch} {e : Env} {s : State} {m : MethodId} {args : Array Value} {below : List Frame} {meth : Method} {c : Code} {G : GG} {base : Nat} (C0 : BC p s m args meth c G base RX6 cX6_looks 6 (some .boolean) wsX6_looks) {Q : Int32 → MM → Prop} {K : Nat → Int32 → Int32 → Int32 → Int32 → MM → Prop} (hK9 : ∀ (l0 : Nat) (l1 : Int32) (l2 : Int32) (l4 : Int32) (l5 : Int32) (m0 : MM) (H : Heap) (locs : List Loc) (ls : Array Slot), K l0 l1 l2 l4 l5 m0 → hp G (xA base) m0 H → va_S (xA base) s.heap H locs → lv_has ls 6 [(0, .ref l0), (1, .int l1), (2, .int l2), (4, .int l4), (5, .int l5)] → W p l e ({ frames := 2, cells := 0, slots := 0, locals := 51 } : Room) s m args below meth c H locs 0 0 (MQ below (va_Qi Q (HB G base) (xA base)) args s 0 0 (xA base)) (F0 m 20 ls [])) : ∀ (l0 : Nat) (l1 : Int32) (l2 : Int32) (l4 : Int32) (l5 : Int32) (s0 : Nat) (m0 : MM) (H : Heap) (locs : List Loc) (ls : Array Slot), wp_X6_looks_89 Q K l0 l1 l2 l4 l5 s0 m0 → hp G (xA base) m0 H → va_S (xA base) s.heap H locs → lv_has ls 6 [(0, .ref l0), (1, .int l1), (2, .int l2), (4, .int l4), (5, .int l5)] → W p l e ({ frames := 2, cells := 0, slots := 0, locals := 51 } : Room) s m args below meth c H locs 0 0 (MQ below (va_Qi Q (HB G base) (xA base)) args s 0 0 (xA base)) (F0 m 89 ls [.ref s0]) := by
  obtain ⟨hx, hb, hr, hml, hown, hts, hlocks, hK, hbase, hX⟩ := id C0
  intro l0 l1 l2 l4 l5 s0 m0 H locs ls h hh hS hl
  unfold wp_X6_looks_89 at h
  have hL6 : ∀ w ∈ u_ws RX6 TX6 17, w.before _ s = true := fun w h9 => hts w (List.mem_cons_of_mem _ (List.mem_append_right _ (h9)))
  have q2 : (Cond.fieldLink RX6 25 "RollupStoreModel" "value" "[I").before _ s = true := hts _ (List.mem_cons_of_mem _ (List.mem_append_left _ (List.mem_of_getElem? (i := 5) rfl)))
  refine lv_aload_n hx hb dX6_looks_89 rfl (lv_at hl 0 rfl) ?_
  obtain ⟨g32, h⟩ := h
  obtain ⟨b33, eb33, h⟩ := h
  refine xr_getR (ci := 6) (C := RX6) (T := TX6) (N := 17) hx hb hL6 hown hK hh g32 (by decide) rfl 8 128 rfl rfl (by decide) (by decide) q2 (fun _ h9 => h9) eb33 dX6_looks_90 ?_
  refine lv_iload hx hb dX6_looks_93 (lv_at hl 4 rfl) ?_
  obtain ⟨g34, h⟩ := h
  obtain ⟨g35, h⟩ := h
  refine xr_iald hx hb hK hh g34 g35 dX6_looks_95 ?_
  refine lv_goto (tgt := 103) hx hb dX6_looks_96 (by decide) ?_
  exact bk_X6_looks_103 C0  (K := K) hK9 _ _ _ _ _ _ _ _ _ _ _ h hh hS (lv_sub hl [0, 1, 2, 3, 4] rfl)

set_option maxHeartbeats 4000000 in
set_option maxRecDepth 100000 in
theorem bk_X6_looks_20 {p : Program} {l : Launch} {e : Env} {s : State} {m : MethodId} {args : Array Value} {below : List Frame} {meth : Method} {c : Code} {G : GG} {base : Nat} (C0 : BC p s m args meth c G base RX6 cX6_looks 6 (some .boolean) wsX6_looks) {Q : Int32 → MM → Prop} : ∀ (n : Nat) (l0 : Nat) (l1 : Int32) (l2 : Int32) (l4 : Int32) (l5 : Int32) (m0 : MM) (H : Heap) (locs : List Loc) (ls : Array Slot), wp_X6_looks_20 Q n l0 l1 l2 l4 l5 m0 → hp G (xA base) m0 H → va_S (xA base) s.heap H locs → lv_has ls 6 [(0, .ref l0), (1, .int l1), (2, .int l2), (4, .int l4), (5, .int l5)] → W p l e ({ frames := 2, cells := 0, slots := 0, locals := 51 } : Room) s m args below meth c H locs 0 0 (MQ below (va_Qi Q (HB G base) (xA base)) args s 0 0 (xA base)) (F0 m 20 ls []) := by
  obtain ⟨hx, hb, hr, hml, hown, hts, hlocks, hK, hbase, hX⟩ := id C0
  intro n
  induction n with
  | zero =>
    intro l0 l1 l2 l4 l5 m0 H locs ls h
    unfold wp_X6_looks_20 at h
    exact h.elim
  | succ n ih =>
    intro l0 l1 l2 l4 l5 m0 H locs ls h hh hS hl
    unfold wp_X6_looks_20 at h
    have hL6 : ∀ w ∈ u_ws RX6 TX6 17, w.before _ s = true := fun w h9 => hts w (List.mem_cons_of_mem _ (List.mem_append_right _ (h9)))
    have q2 : (Cond.fieldLink RX6 46 "RollupStoreModel" "all" "I").before _ s = true := hts _ (List.mem_cons_of_mem _ (List.mem_append_left _ (List.mem_of_getElem? (i := 2) rfl)))
    have q3 : (Cond.fieldLink RX6 19 "RollupStoreModel" "who" "[I").before _ s = true := hts _ (List.mem_cons_of_mem _ (List.mem_append_left _ (List.mem_of_getElem? (i := 3) rfl)))
    have q4 : (Cond.fieldLink RX6 22 "RollupStoreModel" "time" "[I").before _ s = true := hts _ (List.mem_cons_of_mem _ (List.mem_append_left _ (List.mem_of_getElem? (i := 4) rfl)))
    have q5 : (Cond.fieldLink RX6 114 "RollupStoreModel" "many" "I").before _ s = true := hts _ (List.mem_cons_of_mem _ (List.mem_append_left _ (List.mem_of_getElem? (i := 0) rfl)))
    have q6 : (Cond.fieldLink RX6 25 "RollupStoreModel" "value" "[I").before _ s = true := hts _ (List.mem_cons_of_mem _ (List.mem_append_left _ (List.mem_of_getElem? (i := 5) rfl)))
    have q7 : (Cond.fieldLink RX6 121 "RollupStoreModel" "least" "I").before _ s = true := hts _ (List.mem_cons_of_mem _ (List.mem_append_left _ (List.mem_of_getElem? (i := 6) rfl)))
    refine lv_iload hx hb dX6_looks_20 (lv_at hl 4 rfl) ?_
    refine lv_aload_n hx hb dX6_looks_22 rfl (lv_at hl 0 rfl) ?_
    obtain ⟨g8, h⟩ := h
    refine xr_getI (ci := 6) (C := RX6) (T := TX6) (N := 17) hx hb hL6 hown hK hh g8 (by decide) rfl 2 122 rfl rfl (by decide) (by decide) q2 (fun _ h9 => h9) dX6_looks_23 ?_
    refine lv_icmp_ge (tgt := 214) hx hb dX6_looks_26 (by decide) (fun c9 => ?_) (fun c9 => ?_)
    · replace h := h.1 c9
      exact bk_X6_looks_214 C0  _ _ _ _ _ h hh hS (lv_sub hl [0] rfl)
    · replace h := h.2 c9
      refine lv_aload_n hx hb dX6_looks_29 rfl (lv_at hl 0 rfl) ?_
      refine lv_iload_n hx hb dX6_looks_30 rfl (lv_at hl 2 rfl) ?_
      refine lv_iload hx hb dX6_looks_31 (lv_at hl 3 rfl) ?_
      refine lv_i2l hx hb dX6_looks_33 rfl ?_
      obtain ⟨g12, h⟩ := h
      refine xc_i (va_runV (As := [.int l2, .long l4.toInt64]) (rest := []) ⟨hx, hb, hml, hown, hts⟩ (mt_X6_isGone l G base h) (cwV 2 hts gX6_looks_X6_isGone rfl rfl rfl (by decide +kernel) ⟨Nat.le_of_ble_eq_true rfl, Nat.le_of_ble_eq_true rfl⟩) (xp_V hbase hh hK hX hS (ci := 6) g12 (by decide) rfl) rfl rfl hl.1 rfl (lv_room (Nat.le_of_ble_eq_true rfl)) dX6_looks_34 ⟨Nat.le_of_ble_eq_true rfl, Nat.le_of_ble_eq_true rfl⟩) hS (fun r13 m14 H locs h hh hS => ?_)
      refine lv_if_ne (tgt := 214) hx hb dX6_looks_37 (by decide) (fun c15 => ?_) (fun c15 => ?_)
      · replace h := h.1 c15
        exact bk_X6_looks_214 C0  _ _ _ _ _ h hh hS (lv_sub hl [0] rfl)
      · replace h := h.2 c15
        refine lv_aload_n hx hb dX6_looks_40 rfl (lv_at hl 0 rfl) ?_
        obtain ⟨g16, h⟩ := h
        obtain ⟨b17, eb17, h⟩ := h
        refine xr_getR (ci := 6) (C := RX6) (T := TX6) (N := 17) hx hb hL6 hown hK hh g16 (by decide) rfl 6 126 rfl rfl (by decide) (by decide) q3 (fun _ h9 => h9) eb17 dX6_looks_41 ?_
        refine lv_iload hx hb dX6_looks_44 (lv_at hl 4 rfl) ?_
        obtain ⟨g18, h⟩ := h
        obtain ⟨g19, h⟩ := h
        refine xr_iald hx hb hK hh g18 g19 dX6_looks_46 ?_
        refine lv_iload_n hx hb dX6_looks_47 rfl (lv_at hl 1 rfl) ?_
        refine lv_icmp_ne (tgt := 208) hx hb dX6_looks_48 (by decide) (fun c20 => ?_) (fun c20 => ?_)
        · replace h := h.1 c20
          obtain ⟨x21, ex21⟩ : ∃ y : Int32, y = l5 + 1 := ⟨_, rfl⟩
          replace h := h x21 ex21
          refine lv_iinc (v := x21) (lv' := [(5, .int x21), (0, .ref l0), (1, .int l1), (2, .int l2), (4, .int l4)]) hx hb dX6_looks_208 hl (k := 4) rfl (by rw [ex21]; rfl) (by decide) rfl (fun ls hl => ?_)
          refine lv_goto (tgt := 20) hx hb dX6_looks_211 (by decide) ?_
          exact ih _ _ _ _ _ _ _ _ _ h hh hS (lv_sub hl [1, 2, 3, 4, 0] rfl)
        · replace h := h.2 c20
          refine lv_iload_n hx hb dX6_looks_51 rfl (lv_at hl 2 rfl) ?_
          refine lv_aload_n hx hb dX6_looks_52 rfl (lv_at hl 0 rfl) ?_
          obtain ⟨g22, h⟩ := h
          obtain ⟨b23, eb23, h⟩ := h
          refine xr_getR (ci := 6) (C := RX6) (T := TX6) (N := 17) hx hb hL6 hown hK hh g22 (by decide) rfl 7 127 rfl rfl (by decide) (by decide) q4 (fun _ h9 => h9) eb23 dX6_looks_53 ?_
          refine lv_iload hx hb dX6_looks_56 (lv_at hl 4 rfl) ?_
          obtain ⟨g24, h⟩ := h
          obtain ⟨g25, h⟩ := h
          refine xr_iald hx hb hK hh g24 g25 dX6_looks_58 ?_
          refine xc_i (va_runS (As := [.int l2, .int (mAI m14 b23 l5.toNatClampNeg)]) (rest := []) ⟨hx, hb, hml, hown, hts⟩ (mt_X6_begin l G base h) (va_cwS 2 hts gX6_looks_X6_begin rfl rfl rfl (by decide +kernel) ⟨Nat.le_of_ble_eq_true rfl, Nat.le_of_ble_eq_true rfl⟩) (xp_S hbase hh hK hX hS) rfl rfl hl.1 rfl (lv_room (Nat.le_of_ble_eq_true rfl)) dX6_looks_59 ⟨Nat.le_of_ble_eq_true rfl, Nat.le_of_ble_eq_true rfl⟩) hS (fun r26 m27 H locs h hh hS => ?_)
          refine lv_iload hx hb dX6_looks_62 (lv_at hl 3 rfl) ?_
          refine lv_icmp_ne (tgt := 208) hx hb dX6_looks_64 (by decide) (fun c28 => ?_) (fun c28 => ?_)
          · replace h := h.1 c28
            obtain ⟨x29, ex29⟩ : ∃ y : Int32, y = l5 + 1 := ⟨_, rfl⟩
            replace h := h x29 ex29
            refine lv_iinc (v := x29) (lv' := [(5, .int x29), (0, .ref l0), (1, .int l1), (2, .int l2), (4, .int l4)]) hx hb dX6_looks_208 hl (k := 4) rfl (by rw [ex29]; rfl) (by decide) rfl (fun ls hl => ?_)
            refine lv_goto (tgt := 20) hx hb dX6_looks_211 (by decide) ?_
            exact ih _ _ _ _ _ _ _ _ _ h hh hS (lv_sub hl [1, 2, 3, 4, 0] rfl)
          · replace h := h.2 c28
            refine lv_aload_n hx hb dX6_looks_67 rfl (lv_at hl 0 rfl) ?_
            refine lv_aload_n hx hb dX6_looks_68 rfl (lv_at hl 0 rfl) ?_
            obtain ⟨g30, h⟩ := h
            refine xr_getI (ci := 6) (C := RX6) (T := TX6) (N := 17) hx hb hL6 hown hK hh g30 (by decide) rfl 9 129 rfl rfl (by decide) (by decide) q5 (fun _ h9 => h9) dX6_looks_69 ?_
            refine lv_if_eq (tgt := 89) hx hb dX6_looks_72 (by decide) (fun c31 => ?_) (fun c31 => ?_)
            · replace h := h.1 c31
              exact bk_X6_looks_89 C0  (K := wp_X6_looks_20 Q n) ih _ _ _ _ _ _ _ _ _ _ h hh hS (lv_sub hl [0, 1, 2, 3, 4] rfl)
            · replace h := h.2 c31
              refine lv_aload_n hx hb dX6_looks_75 rfl (lv_at hl 0 rfl) ?_
              obtain ⟨g79, h⟩ := h
              obtain ⟨b80, eb80, h⟩ := h
              refine xr_getR (ci := 6) (C := RX6) (T := TX6) (N := 17) hx hb hL6 hown hK hh g79 (by decide) rfl 8 128 rfl rfl (by decide) (by decide) q6 (fun _ h9 => h9) eb80 dX6_looks_76 ?_
              refine lv_iload hx hb dX6_looks_79 (lv_at hl 4 rfl) ?_
              obtain ⟨g81, h⟩ := h
              obtain ⟨g82, h⟩ := h
              refine xr_iald hx hb hK hh g81 g82 dX6_looks_81 ?_
              refine lv_aload_n hx hb dX6_looks_82 rfl (lv_at hl 0 rfl) ?_
              obtain ⟨g83, h⟩ := h
              refine xr_getI (ci := 6) (C := RX6) (T := TX6) (N := 17) hx hb hL6 hown hK hh g83 (by decide) rfl 11 131 rfl rfl (by decide) (by decide) q7 (fun _ h9 => h9) dX6_looks_83 ?_
              refine lv_icmp_ge (tgt := 99) hx hb dX6_looks_86 (by decide) (fun c84 => ?_) (fun c84 => ?_)
              · replace h := h.1 c84
                refine lv_aload_n hx hb dX6_looks_99 rfl (lv_at hl 0 rfl) ?_
                obtain ⟨g85, h⟩ := h
                refine xr_getI (ci := 6) (C := RX6) (T := TX6) (N := 17) hx hb hL6 hown hK hh g85 (by decide) rfl 11 131 rfl rfl (by decide) (by decide) q7 (fun _ h9 => h9) dX6_looks_100 ?_
                exact bk_X6_looks_103 C0  (K := wp_X6_looks_20 Q n) ih _ _ _ _ _ _ _ _ _ _ _ h hh hS (lv_sub hl [0, 1, 2, 3, 4] rfl)
              · replace h := h.2 c84
                exact bk_X6_looks_89 C0  (K := wp_X6_looks_20 Q n) ih _ _ _ _ _ _ _ _ _ _ h hh hS (lv_sub hl [0, 1, 2, 3, 4] rfl)

set_option maxHeartbeats 4000000 in
set_option maxRecDepth 100000 in
theorem mt_X6_looks (l : Launch) (G : GG) (base : Nat) {a0 : Nat} {p1 : Int32} {p2 : Int32} {p3 : Int32} {m0 : MM} {Q : Int32 → MM → Prop} (h : wp_X6_looks a0 p1 p2 p3 m0 Q) : Met l yX6_looks wsX6_looks ({ frames := 2, cells := 0, slots := 0, locals := 51 }) (va_Pc [.ref a0, .int p1, .int p2, .int p3] (SP G base m0)) (va_Qi Q (HB G base) (xA base)) 0 0 (xA base) := by
  refine Met.ofW (cc := cX6_looks) (maxL := 6) (ret := (some .boolean)) (by decide) rfl ?_
  intro p e s m args below meth c s₁ B hml hv
  obtain ⟨rfl, hbase, hh, hK, hX⟩ := hv
  have C0 : BC p s m _ meth c G base RX6 cX6_looks 6 (some .boolean) wsX6_looks := ⟨B.exec, B.bytes, B.returns, hml, findClass_of_methodNamed B.named, atoms_spec (ws := wsX6_looks) B.pre, B.notSynchronized, hK, hbase, hX⟩
  obtain ⟨hx, hb, hr, -, hown, hts, hlocks, -, -, -⟩ := id C0
  have hS : va_S (xA base) s.heap s.heap [] := va_S.rf
  have hl := lv_entry ([.ref a0, .int p1, .int p2, .int p3]) (n := 6) (Nat.le_of_ble_eq_true rfl)
  rw [lg_entry_eq]
  generalize (lg_sl ([.ref a0, .int p1, .int p2, .int p3]) ++ List.replicate (6 - (lg_sl ([.ref a0, .int p1, .int p2, .int p3])).length) Slot.unset).toArray = ls at hl ⊢
  have hl : lv_has ls 6 [(0, .ref a0), (1, .int p1), (2, .int p2), (3, .int p3)] := hl
  unfold wp_X6_looks at h
  have hL6 : ∀ w ∈ u_ws RX6 TX6 17, w.before _ s = true := fun w h9 => hts w (List.mem_cons_of_mem _ (List.mem_append_right _ (h9)))
  have q2 : (Cond.fieldLink RX6 114 "RollupStoreModel" "many" "I").before _ s = true := hts _ (List.mem_cons_of_mem _ (List.mem_append_left _ (List.mem_of_getElem? (i := 0) rfl)))
  have q3 : (Cond.fieldLink RX6 117 "RollupStoreModel" "sum" "J").before _ s = true := hts _ (List.mem_cons_of_mem _ (List.mem_append_left _ (List.mem_of_getElem? (i := 1) rfl)))
  refine lv_iload_n hx hb dX6_looks_0 rfl (lv_at hl 2 rfl) ?_
  refine lv_iload_n hx hb dX6_looks_1 rfl (lv_at hl 3 rfl) ?_
  refine xc_i (va_runS (As := [.int p2, .int p3]) (rest := []) ⟨hx, hb, hml, hown, hts⟩ (mt_X6_begin l G base h) (va_cwS 2 hts gX6_looks_X6_begin rfl rfl rfl (by decide +kernel) ⟨Nat.le_of_ble_eq_true rfl, Nat.le_of_ble_eq_true rfl⟩) (xp_S hbase hh hK hX hS) rfl rfl hl.1 rfl (lv_room (Nat.le_of_ble_eq_true rfl)) dX6_looks_2 ⟨Nat.le_of_ble_eq_true rfl, Nat.le_of_ble_eq_true rfl⟩) hS (fun r1 m2 H locs h hh hS => ?_)
  refine lv_istore (lv' := [(4, .int r1), (0, .ref a0), (1, .int p1), (2, .int p2), (3, .int p3)]) hx hb dX6_looks_5 hl (by decide) rfl (fun ls hl => ?_)
  refine lv_aload_n hx hb dX6_looks_7 rfl (lv_at hl 1 rfl) ?_
  refine lv_iconst (v := 0) hx hb dX6_looks_8 (by decide) ?_
  obtain ⟨g3, h⟩ := h
  refine xr_putI (ci := 6) (C := RX6) (T := TX6) (N := 17) hx hb hL6 hown hK hh g3 (by decide) rfl 9 129 rfl rfl (by decide) (by decide) q2 (fun _ h9 => h9) tyX6 tyX6_ok nmX6 rfl rfl rfl hS dX6_looks_9 (fun H locs hh hS => ?_)
  obtain ⟨m4, em4⟩ : ∃ z : MM, z = sI m2 129 a0 (0 : Int32) := ⟨_, rfl⟩
  rw [← em4] at hh
  replace h := h m4 em4
  refine lv_aload_n hx hb dX6_looks_12 rfl (lv_at hl 1 rfl) ?_
  refine lv_lconst (v := 0) hx hb dX6_looks_13 (by decide) ?_
  obtain ⟨g5, h⟩ := h
  refine xr_putJ (ci := 6) (C := RX6) (T := TX6) (N := 17) hx hb hL6 hown hK hh g5 (by decide) rfl 10 130 rfl rfl (by decide) (by decide) q3 (fun _ h9 => h9) tyX6 tyX6_ok nmX6 rfl rfl rfl hS dX6_looks_14 (fun H locs hh hS => ?_)
  obtain ⟨m6, em6⟩ : ∃ z : MM, z = sJ m4 130 a0 (0 : Int64) := ⟨_, rfl⟩
  rw [← em6] at hh
  replace h := h m6 em6
  refine lv_iconst (v := 0) hx hb dX6_looks_17 (by decide) ?_
  refine lv_topi (fun x7 ex7 => ?_)
  replace h := h x7 ex7
  refine lv_istore (lv' := [(5, .int x7), (4, .int r1), (0, .ref a0), (1, .int p1), (2, .int p2), (3, .int p3)]) hx hb dX6_looks_18 hl (by decide) rfl (fun ls hl => ?_)
  obtain ⟨n9, h⟩ := h
  exact bk_X6_looks_20 C0  n9 _ _ _ _ _ _ _ _ _ h hh hS (lv_sub hl [2, 3, 4, 1, 0] rfl)

set_option maxHeartbeats 4000000 in
set_option maxRecDepth 100000 in
theorem mt_X6_hasRollup (l : Launch) (G : GG) (base : Nat) {a0 : Nat} {p1 : Int32} {p2 : Int32} {p3 : Int32} {m0 : MM} {Q : Int32 → MM → Prop} (h : wp_X6_hasRollup a0 p1 p2 p3 m0 Q) : Met l yX6_hasRollup wsX6_hasRollup ({ frames := 3, cells := 0, slots := 0, locals := 76 }) (va_Pc [.ref a0, .int p1, .int p2, .int p3] (SP G base m0)) (va_Qi Q (HB G base) (xA base)) 0 0 (xA base) := by
  refine Met.ofW (cc := cX6_hasRollup) (maxL := 4) (ret := (some .boolean)) (by decide) rfl ?_
  intro p e s m args below meth c s₁ B hml hv
  obtain ⟨rfl, hbase, hh, hK, hX⟩ := hv
  have C0 : BC p s m _ meth c G base RX6 cX6_hasRollup 4 (some .boolean) wsX6_hasRollup := ⟨B.exec, B.bytes, B.returns, hml, findClass_of_methodNamed B.named, atoms_spec (ws := wsX6_hasRollup) B.pre, B.notSynchronized, hK, hbase, hX⟩
  obtain ⟨hx, hb, hr, -, hown, hts, hlocks, -, -, -⟩ := id C0
  have hS : va_S (xA base) s.heap s.heap [] := va_S.rf
  have hl := lv_entry ([.ref a0, .int p1, .int p2, .int p3]) (n := 4) (Nat.le_of_ble_eq_true rfl)
  rw [lg_entry_eq]
  generalize (lg_sl ([.ref a0, .int p1, .int p2, .int p3]) ++ List.replicate (4 - (lg_sl ([.ref a0, .int p1, .int p2, .int p3])).length) Slot.unset).toArray = ls at hl ⊢
  have hl : lv_has ls 4 [(0, .ref a0), (1, .int p1), (2, .int p2), (3, .int p3)] := hl
  unfold wp_X6_hasRollup at h
  refine lv_aload_n hx hb dX6_hasRollup_0 rfl (lv_at hl 0 rfl) ?_
  refine lv_aload_n hx hb dX6_hasRollup_1 rfl (lv_at hl 0 rfl) ?_
  refine lv_iload_n hx hb dX6_hasRollup_2 rfl (lv_at hl 1 rfl) ?_
  obtain ⟨g1, h⟩ := h
  refine xc_i (va_runV (As := [.int p1]) (rest := [.ref a0]) ⟨hx, hb, hml, hown, hts⟩ (mt_X6_isSeries l G base h) (cwV 1 hts gX6_hasRollup_X6_isSeries rfl rfl rfl (by decide +kernel) ⟨Nat.le_of_ble_eq_true rfl, Nat.le_of_ble_eq_true rfl⟩) (xp_V hbase hh hK hX hS (ci := 6) g1 (by decide) rfl) rfl rfl hl.1 rfl (lv_room (Nat.le_of_ble_eq_true rfl)) dX6_hasRollup_3 ⟨Nat.le_of_ble_eq_true rfl, Nat.le_of_ble_eq_true rfl⟩) hS (fun r2 m3 H locs h hh hS => ?_)
  refine lv_if_ne (tgt := 13) hx hb dX6_hasRollup_6 (by decide) (fun c4 => ?_) (fun c4 => ?_)
  · replace h := h.1 c4
    refine lv_iload_n hx hb dX6_hasRollup_13 rfl (lv_at hl 2 rfl) ?_
    refine xc_i (va_runS (As := [.int p2]) (rest := [.ref a0]) ⟨hx, hb, hml, hown, hts⟩ (mt_X6_isRolled l G base h) (va_cwS 1 hts gX6_hasRollup_X6_isRolled rfl rfl rfl (by decide +kernel) ⟨Nat.le_of_ble_eq_true rfl, Nat.le_of_ble_eq_true rfl⟩) (xp_S hbase hh hK hX hS) rfl rfl hl.1 rfl (lv_room (Nat.le_of_ble_eq_true rfl)) dX6_hasRollup_14 ⟨Nat.le_of_ble_eq_true rfl, Nat.le_of_ble_eq_true rfl⟩) hS (fun r5 m6 H locs h hh hS => ?_)
    refine lv_if_eq (tgt := 24) hx hb dX6_hasRollup_17 (by decide) (fun c7 => ?_) (fun c7 => ?_)
    · replace h := h.1 c7
      refine lv_iconst (v := 2) hx hb dX6_hasRollup_24 (by decide) ?_
      refine lv_goto (tgt := 29) hx hb dX6_hasRollup_25 (by decide) ?_
      obtain ⟨g8, h⟩ := h
      refine xc_i (va_runV (As := [.int (2 : Int32)]) (rest := []) ⟨hx, hb, hml, hown, hts⟩ (mt_X6_can l G base h) (cwV 1 hts gX6_hasRollup_X6_can rfl rfl rfl (by decide +kernel) ⟨Nat.le_of_ble_eq_true rfl, Nat.le_of_ble_eq_true rfl⟩) (xp_V hbase hh hK hX hS (ci := 6) g8 (by decide) rfl) rfl rfl hl.1 rfl (lv_room (Nat.le_of_ble_eq_true rfl)) dX6_hasRollup_29 ⟨Nat.le_of_ble_eq_true rfl, Nat.le_of_ble_eq_true rfl⟩) hS (fun r9 m10 H locs h hh hS => ?_)
      refine lv_if_eq (tgt := 49) hx hb dX6_hasRollup_32 (by decide) (fun c11 => ?_) (fun c11 => ?_)
      · replace h := h.1 c11
        refine lv_iconst (v := 0) hx hb dX6_hasRollup_49 (by decide) ?_
        exact (xe_z hx hb hr hlocks hbase hh hK hX hS (Or.inl rfl) h (Nat.le_of_ble_eq_true rfl) (Nat.le_of_ble_eq_true rfl) dX6_hasRollup_50)
      · replace h := h.2 c11
        refine lv_aload_n hx hb dX6_hasRollup_35 rfl (lv_at hl 0 rfl) ?_
        refine lv_iload_n hx hb dX6_hasRollup_36 rfl (lv_at hl 1 rfl) ?_
        refine lv_iload_n hx hb dX6_hasRollup_37 rfl (lv_at hl 2 rfl) ?_
        refine lv_iload_n hx hb dX6_hasRollup_38 rfl (lv_at hl 3 rfl) ?_
        obtain ⟨g12, h⟩ := h
        refine xc_i (va_runV (As := [.int p1, .int p2, .int p3]) (rest := []) ⟨hx, hb, hml, hown, hts⟩ (mt_X6_looks l G base h) (cwV 3 hts gX6_hasRollup_X6_looks rfl rfl rfl (by decide +kernel) ⟨Nat.le_of_ble_eq_true rfl, Nat.le_of_ble_eq_true rfl⟩) (xp_V hbase hh hK hX hS (ci := 6) g12 (by decide) rfl) rfl rfl hl.1 rfl (lv_room (Nat.le_of_ble_eq_true rfl)) dX6_hasRollup_39 ⟨Nat.le_of_ble_eq_true rfl, Nat.le_of_ble_eq_true rfl⟩) hS (fun r13 m14 H locs h hh hS => ?_)
        refine lv_if_eq (tgt := 49) hx hb dX6_hasRollup_42 (by decide) (fun c15 => ?_) (fun c15 => ?_)
        · replace h := h.1 c15
          refine lv_iconst (v := 0) hx hb dX6_hasRollup_49 (by decide) ?_
          exact (xe_z hx hb hr hlocks hbase hh hK hX hS (Or.inl rfl) h (Nat.le_of_ble_eq_true rfl) (Nat.le_of_ble_eq_true rfl) dX6_hasRollup_50)
        · replace h := h.2 c15
          refine lv_iconst (v := 1) hx hb dX6_hasRollup_45 (by decide) ?_
          refine lv_goto (tgt := 50) hx hb dX6_hasRollup_46 (by decide) ?_
          exact (xe_z hx hb hr hlocks hbase hh hK hX hS (Or.inr rfl) h (Nat.le_of_ble_eq_true rfl) (Nat.le_of_ble_eq_true rfl) dX6_hasRollup_50)
    · replace h := h.2 c7
      refine lv_iload_n hx hb dX6_hasRollup_20 rfl (lv_at hl 3 rfl) ?_
      refine lv_if_ge (tgt := 28) hx hb dX6_hasRollup_21 (by decide) (fun c16 => ?_) (fun c16 => ?_)
      · replace h := h.1 c16
        refine lv_iconst (v := 0) hx hb dX6_hasRollup_28 (by decide) ?_
        obtain ⟨g17, h⟩ := h
        refine xc_i (va_runV (As := [.int (0 : Int32)]) (rest := []) ⟨hx, hb, hml, hown, hts⟩ (mt_X6_can l G base h) (cwV 1 hts gX6_hasRollup_X6_can rfl rfl rfl (by decide +kernel) ⟨Nat.le_of_ble_eq_true rfl, Nat.le_of_ble_eq_true rfl⟩) (xp_V hbase hh hK hX hS (ci := 6) g17 (by decide) rfl) rfl rfl hl.1 rfl (lv_room (Nat.le_of_ble_eq_true rfl)) dX6_hasRollup_29 ⟨Nat.le_of_ble_eq_true rfl, Nat.le_of_ble_eq_true rfl⟩) hS (fun r18 m19 H locs h hh hS => ?_)
        refine lv_if_eq (tgt := 49) hx hb dX6_hasRollup_32 (by decide) (fun c20 => ?_) (fun c20 => ?_)
        · replace h := h.1 c20
          refine lv_iconst (v := 0) hx hb dX6_hasRollup_49 (by decide) ?_
          exact (xe_z hx hb hr hlocks hbase hh hK hX hS (Or.inl rfl) h (Nat.le_of_ble_eq_true rfl) (Nat.le_of_ble_eq_true rfl) dX6_hasRollup_50)
        · replace h := h.2 c20
          refine lv_aload_n hx hb dX6_hasRollup_35 rfl (lv_at hl 0 rfl) ?_
          refine lv_iload_n hx hb dX6_hasRollup_36 rfl (lv_at hl 1 rfl) ?_
          refine lv_iload_n hx hb dX6_hasRollup_37 rfl (lv_at hl 2 rfl) ?_
          refine lv_iload_n hx hb dX6_hasRollup_38 rfl (lv_at hl 3 rfl) ?_
          obtain ⟨g21, h⟩ := h
          refine xc_i (va_runV (As := [.int p1, .int p2, .int p3]) (rest := []) ⟨hx, hb, hml, hown, hts⟩ (mt_X6_looks l G base h) (cwV 3 hts gX6_hasRollup_X6_looks rfl rfl rfl (by decide +kernel) ⟨Nat.le_of_ble_eq_true rfl, Nat.le_of_ble_eq_true rfl⟩) (xp_V hbase hh hK hX hS (ci := 6) g21 (by decide) rfl) rfl rfl hl.1 rfl (lv_room (Nat.le_of_ble_eq_true rfl)) dX6_hasRollup_39 ⟨Nat.le_of_ble_eq_true rfl, Nat.le_of_ble_eq_true rfl⟩) hS (fun r22 m23 H locs h hh hS => ?_)
          refine lv_if_eq (tgt := 49) hx hb dX6_hasRollup_42 (by decide) (fun c24 => ?_) (fun c24 => ?_)
          · replace h := h.1 c24
            refine lv_iconst (v := 0) hx hb dX6_hasRollup_49 (by decide) ?_
            exact (xe_z hx hb hr hlocks hbase hh hK hX hS (Or.inl rfl) h (Nat.le_of_ble_eq_true rfl) (Nat.le_of_ble_eq_true rfl) dX6_hasRollup_50)
          · replace h := h.2 c24
            refine lv_iconst (v := 1) hx hb dX6_hasRollup_45 (by decide) ?_
            refine lv_goto (tgt := 50) hx hb dX6_hasRollup_46 (by decide) ?_
            exact (xe_z hx hb hr hlocks hbase hh hK hX hS (Or.inr rfl) h (Nat.le_of_ble_eq_true rfl) (Nat.le_of_ble_eq_true rfl) dX6_hasRollup_50)
      · replace h := h.2 c16
        refine lv_iconst (v := 2) hx hb dX6_hasRollup_24 (by decide) ?_
        refine lv_goto (tgt := 29) hx hb dX6_hasRollup_25 (by decide) ?_
        obtain ⟨g25, h⟩ := h
        refine xc_i (va_runV (As := [.int (2 : Int32)]) (rest := []) ⟨hx, hb, hml, hown, hts⟩ (mt_X6_can l G base h) (cwV 1 hts gX6_hasRollup_X6_can rfl rfl rfl (by decide +kernel) ⟨Nat.le_of_ble_eq_true rfl, Nat.le_of_ble_eq_true rfl⟩) (xp_V hbase hh hK hX hS (ci := 6) g25 (by decide) rfl) rfl rfl hl.1 rfl (lv_room (Nat.le_of_ble_eq_true rfl)) dX6_hasRollup_29 ⟨Nat.le_of_ble_eq_true rfl, Nat.le_of_ble_eq_true rfl⟩) hS (fun r26 m27 H locs h hh hS => ?_)
        refine lv_if_eq (tgt := 49) hx hb dX6_hasRollup_32 (by decide) (fun c28 => ?_) (fun c28 => ?_)
        · replace h := h.1 c28
          refine lv_iconst (v := 0) hx hb dX6_hasRollup_49 (by decide) ?_
          exact (xe_z hx hb hr hlocks hbase hh hK hX hS (Or.inl rfl) h (Nat.le_of_ble_eq_true rfl) (Nat.le_of_ble_eq_true rfl) dX6_hasRollup_50)
        · replace h := h.2 c28
          refine lv_aload_n hx hb dX6_hasRollup_35 rfl (lv_at hl 0 rfl) ?_
          refine lv_iload_n hx hb dX6_hasRollup_36 rfl (lv_at hl 1 rfl) ?_
          refine lv_iload_n hx hb dX6_hasRollup_37 rfl (lv_at hl 2 rfl) ?_
          refine lv_iload_n hx hb dX6_hasRollup_38 rfl (lv_at hl 3 rfl) ?_
          obtain ⟨g29, h⟩ := h
          refine xc_i (va_runV (As := [.int p1, .int p2, .int p3]) (rest := []) ⟨hx, hb, hml, hown, hts⟩ (mt_X6_looks l G base h) (cwV 3 hts gX6_hasRollup_X6_looks rfl rfl rfl (by decide +kernel) ⟨Nat.le_of_ble_eq_true rfl, Nat.le_of_ble_eq_true rfl⟩) (xp_V hbase hh hK hX hS (ci := 6) g29 (by decide) rfl) rfl rfl hl.1 rfl (lv_room (Nat.le_of_ble_eq_true rfl)) dX6_hasRollup_39 ⟨Nat.le_of_ble_eq_true rfl, Nat.le_of_ble_eq_true rfl⟩) hS (fun r30 m31 H locs h hh hS => ?_)
          refine lv_if_eq (tgt := 49) hx hb dX6_hasRollup_42 (by decide) (fun c32 => ?_) (fun c32 => ?_)
          · replace h := h.1 c32
            refine lv_iconst (v := 0) hx hb dX6_hasRollup_49 (by decide) ?_
            exact (xe_z hx hb hr hlocks hbase hh hK hX hS (Or.inl rfl) h (Nat.le_of_ble_eq_true rfl) (Nat.le_of_ble_eq_true rfl) dX6_hasRollup_50)
          · replace h := h.2 c32
            refine lv_iconst (v := 1) hx hb dX6_hasRollup_45 (by decide) ?_
            refine lv_goto (tgt := 50) hx hb dX6_hasRollup_46 (by decide) ?_
            exact (xe_z hx hb hr hlocks hbase hh hK hX hS (Or.inr rfl) h (Nat.le_of_ble_eq_true rfl) (Nat.le_of_ble_eq_true rfl) dX6_hasRollup_50)
  · replace h := h.2 c4
    refine lv_iconst (v := 1) hx hb dX6_hasRollup_9 (by decide) ?_
    refine lv_goto (tgt := 29) hx hb dX6_hasRollup_10 (by decide) ?_
    obtain ⟨g33, h⟩ := h
    refine xc_i (va_runV (As := [.int (1 : Int32)]) (rest := []) ⟨hx, hb, hml, hown, hts⟩ (mt_X6_can l G base h) (cwV 1 hts gX6_hasRollup_X6_can rfl rfl rfl (by decide +kernel) ⟨Nat.le_of_ble_eq_true rfl, Nat.le_of_ble_eq_true rfl⟩) (xp_V hbase hh hK hX hS (ci := 6) g33 (by decide) rfl) rfl rfl hl.1 rfl (lv_room (Nat.le_of_ble_eq_true rfl)) dX6_hasRollup_29 ⟨Nat.le_of_ble_eq_true rfl, Nat.le_of_ble_eq_true rfl⟩) hS (fun r34 m35 H locs h hh hS => ?_)
    refine lv_if_eq (tgt := 49) hx hb dX6_hasRollup_32 (by decide) (fun c36 => ?_) (fun c36 => ?_)
    · replace h := h.1 c36
      refine lv_iconst (v := 0) hx hb dX6_hasRollup_49 (by decide) ?_
      exact (xe_z hx hb hr hlocks hbase hh hK hX hS (Or.inl rfl) h (Nat.le_of_ble_eq_true rfl) (Nat.le_of_ble_eq_true rfl) dX6_hasRollup_50)
    · replace h := h.2 c36
      refine lv_aload_n hx hb dX6_hasRollup_35 rfl (lv_at hl 0 rfl) ?_
      refine lv_iload_n hx hb dX6_hasRollup_36 rfl (lv_at hl 1 rfl) ?_
      refine lv_iload_n hx hb dX6_hasRollup_37 rfl (lv_at hl 2 rfl) ?_
      refine lv_iload_n hx hb dX6_hasRollup_38 rfl (lv_at hl 3 rfl) ?_
      obtain ⟨g37, h⟩ := h
      refine xc_i (va_runV (As := [.int p1, .int p2, .int p3]) (rest := []) ⟨hx, hb, hml, hown, hts⟩ (mt_X6_looks l G base h) (cwV 3 hts gX6_hasRollup_X6_looks rfl rfl rfl (by decide +kernel) ⟨Nat.le_of_ble_eq_true rfl, Nat.le_of_ble_eq_true rfl⟩) (xp_V hbase hh hK hX hS (ci := 6) g37 (by decide) rfl) rfl rfl hl.1 rfl (lv_room (Nat.le_of_ble_eq_true rfl)) dX6_hasRollup_39 ⟨Nat.le_of_ble_eq_true rfl, Nat.le_of_ble_eq_true rfl⟩) hS (fun r38 m39 H locs h hh hS => ?_)
      refine lv_if_eq (tgt := 49) hx hb dX6_hasRollup_42 (by decide) (fun c40 => ?_) (fun c40 => ?_)
      · replace h := h.1 c40
        refine lv_iconst (v := 0) hx hb dX6_hasRollup_49 (by decide) ?_
        exact (xe_z hx hb hr hlocks hbase hh hK hX hS (Or.inl rfl) h (Nat.le_of_ble_eq_true rfl) (Nat.le_of_ble_eq_true rfl) dX6_hasRollup_50)
      · replace h := h.2 c40
        refine lv_iconst (v := 1) hx hb dX6_hasRollup_45 (by decide) ?_
        refine lv_goto (tgt := 50) hx hb dX6_hasRollup_46 (by decide) ?_
        exact (xe_z hx hb hr hlocks hbase hh hK hX hS (Or.inr rfl) h (Nat.le_of_ble_eq_true rfl) (Nat.le_of_ble_eq_true rfl) dX6_hasRollup_50)

set_option maxHeartbeats 4000000 in
set_option maxRecDepth 100000 in
theorem mt_X6_isAsked (l : Launch) (G : GG) (base : Nat) {a0 : Nat} {p1 : Int32} {p2 : Int32} {p3 : Int32} {m0 : MM} {Q : Int32 → MM → Prop} (h : wp_X6_isAsked a0 p1 p2 p3 m0 Q) : Met l yX6_isAsked wsX6_isAsked ({ frames := 3, cells := 0, slots := 0, locals := 76 }) (va_Pc [.ref a0, .int p1, .int p2, .int p3] (SP G base m0)) (va_Qi Q (HB G base) (xA base)) 0 0 (xA base) := by
  refine Met.ofW (cc := cX6_isAsked) (maxL := 4) (ret := (some .boolean)) (by decide) rfl ?_
  intro p e s m args below meth c s₁ B hml hv
  obtain ⟨rfl, hbase, hh, hK, hX⟩ := hv
  have C0 : BC p s m _ meth c G base RX6 cX6_isAsked 4 (some .boolean) wsX6_isAsked := ⟨B.exec, B.bytes, B.returns, hml, findClass_of_methodNamed B.named, atoms_spec (ws := wsX6_isAsked) B.pre, B.notSynchronized, hK, hbase, hX⟩
  obtain ⟨hx, hb, hr, -, hown, hts, hlocks, -, -, -⟩ := id C0
  have hS : va_S (xA base) s.heap s.heap [] := va_S.rf
  have hl := lv_entry ([.ref a0, .int p1, .int p2, .int p3]) (n := 4) (Nat.le_of_ble_eq_true rfl)
  rw [lg_entry_eq]
  generalize (lg_sl ([.ref a0, .int p1, .int p2, .int p3]) ++ List.replicate (4 - (lg_sl ([.ref a0, .int p1, .int p2, .int p3])).length) Slot.unset).toArray = ls at hl ⊢
  have hl : lv_has ls 4 [(0, .ref a0), (1, .int p1), (2, .int p2), (3, .int p3)] := hl
  unfold wp_X6_isAsked at h
  refine lv_aload_n hx hb dX6_isAsked_0 rfl (lv_at hl 0 rfl) ?_
  refine lv_aload_n hx hb dX6_isAsked_1 rfl (lv_at hl 0 rfl) ?_
  refine lv_iload_n hx hb dX6_isAsked_2 rfl (lv_at hl 1 rfl) ?_
  obtain ⟨g1, h⟩ := h
  refine xc_i (va_runV (As := [.int p1]) (rest := [.ref a0]) ⟨hx, hb, hml, hown, hts⟩ (mt_X6_isSeries l G base h) (cwV 1 hts gX6_isAsked_X6_isSeries rfl rfl rfl (by decide +kernel) ⟨Nat.le_of_ble_eq_true rfl, Nat.le_of_ble_eq_true rfl⟩) (xp_V hbase hh hK hX hS (ci := 6) g1 (by decide) rfl) rfl rfl hl.1 rfl (lv_room (Nat.le_of_ble_eq_true rfl)) dX6_isAsked_3 ⟨Nat.le_of_ble_eq_true rfl, Nat.le_of_ble_eq_true rfl⟩) hS (fun r2 m3 H locs h hh hS => ?_)
  refine lv_if_ne (tgt := 13) hx hb dX6_isAsked_6 (by decide) (fun c4 => ?_) (fun c4 => ?_)
  · replace h := h.1 c4
    refine lv_iload_n hx hb dX6_isAsked_13 rfl (lv_at hl 2 rfl) ?_
    refine xc_i (va_runS (As := [.int p2]) (rest := [.ref a0]) ⟨hx, hb, hml, hown, hts⟩ (mt_X6_isRolled l G base h) (va_cwS 1 hts gX6_isAsked_X6_isRolled rfl rfl rfl (by decide +kernel) ⟨Nat.le_of_ble_eq_true rfl, Nat.le_of_ble_eq_true rfl⟩) (xp_S hbase hh hK hX hS) rfl rfl hl.1 rfl (lv_room (Nat.le_of_ble_eq_true rfl)) dX6_isAsked_14 ⟨Nat.le_of_ble_eq_true rfl, Nat.le_of_ble_eq_true rfl⟩) hS (fun r5 m6 H locs h hh hS => ?_)
    refine lv_if_eq (tgt := 24) hx hb dX6_isAsked_17 (by decide) (fun c7 => ?_) (fun c7 => ?_)
    · replace h := h.1 c7
      refine lv_iconst (v := 2) hx hb dX6_isAsked_24 (by decide) ?_
      refine lv_goto (tgt := 43) hx hb dX6_isAsked_25 (by decide) ?_
      obtain ⟨g8, h⟩ := h
      refine xc_i (va_runV (As := [.int (2 : Int32)]) (rest := []) ⟨hx, hb, hml, hown, hts⟩ (mt_X6_can l G base h) (cwV 1 hts gX6_isAsked_X6_can rfl rfl rfl (by decide +kernel) ⟨Nat.le_of_ble_eq_true rfl, Nat.le_of_ble_eq_true rfl⟩) (xp_V hbase hh hK hX hS (ci := 6) g8 (by decide) rfl) rfl rfl hl.1 rfl (lv_room (Nat.le_of_ble_eq_true rfl)) dX6_isAsked_43 ⟨Nat.le_of_ble_eq_true rfl, Nat.le_of_ble_eq_true rfl⟩) hS (fun r9 m10 H locs h hh hS => ?_)
      exact (xe_z hx hb hr hlocks hbase hh hK hX hS h.1 h.2 (Nat.le_of_ble_eq_true rfl) (Nat.le_of_ble_eq_true rfl) dX6_isAsked_46)
    · replace h := h.2 c7
      refine lv_iload_n hx hb dX6_isAsked_20 rfl (lv_at hl 3 rfl) ?_
      refine lv_if_ge (tgt := 28) hx hb dX6_isAsked_21 (by decide) (fun c11 => ?_) (fun c11 => ?_)
      · replace h := h.1 c11
        refine lv_aload_n hx hb dX6_isAsked_28 rfl (lv_at hl 0 rfl) ?_
        refine lv_iload_n hx hb dX6_isAsked_29 rfl (lv_at hl 1 rfl) ?_
        refine lv_iload_n hx hb dX6_isAsked_30 rfl (lv_at hl 2 rfl) ?_
        refine lv_iload_n hx hb dX6_isAsked_31 rfl (lv_at hl 3 rfl) ?_
        obtain ⟨g12, h⟩ := h
        refine xc_i (va_runV (As := [.int p1, .int p2, .int p3]) (rest := [.ref a0]) ⟨hx, hb, hml, hown, hts⟩ (mt_X6_looks l G base h) (cwV 3 hts gX6_isAsked_X6_looks rfl rfl rfl (by decide +kernel) ⟨Nat.le_of_ble_eq_true rfl, Nat.le_of_ble_eq_true rfl⟩) (xp_V hbase hh hK hX hS (ci := 6) g12 (by decide) rfl) rfl rfl hl.1 rfl (lv_room (Nat.le_of_ble_eq_true rfl)) dX6_isAsked_32 ⟨Nat.le_of_ble_eq_true rfl, Nat.le_of_ble_eq_true rfl⟩) hS (fun r13 m14 H locs h hh hS => ?_)
        refine lv_if_eq (tgt := 42) hx hb dX6_isAsked_35 (by decide) (fun c15 => ?_) (fun c15 => ?_)
        · replace h := h.1 c15
          refine lv_iconst (v := 3) hx hb dX6_isAsked_42 (by decide) ?_
          obtain ⟨g16, h⟩ := h
          refine xc_i (va_runV (As := [.int (3 : Int32)]) (rest := []) ⟨hx, hb, hml, hown, hts⟩ (mt_X6_can l G base h) (cwV 1 hts gX6_isAsked_X6_can rfl rfl rfl (by decide +kernel) ⟨Nat.le_of_ble_eq_true rfl, Nat.le_of_ble_eq_true rfl⟩) (xp_V hbase hh hK hX hS (ci := 6) g16 (by decide) rfl) rfl rfl hl.1 rfl (lv_room (Nat.le_of_ble_eq_true rfl)) dX6_isAsked_43 ⟨Nat.le_of_ble_eq_true rfl, Nat.le_of_ble_eq_true rfl⟩) hS (fun r17 m18 H locs h hh hS => ?_)
          exact (xe_z hx hb hr hlocks hbase hh hK hX hS h.1 h.2 (Nat.le_of_ble_eq_true rfl) (Nat.le_of_ble_eq_true rfl) dX6_isAsked_46)
        · replace h := h.2 c15
          refine lv_iconst (v := 0) hx hb dX6_isAsked_38 (by decide) ?_
          refine lv_goto (tgt := 43) hx hb dX6_isAsked_39 (by decide) ?_
          obtain ⟨g19, h⟩ := h
          refine xc_i (va_runV (As := [.int (0 : Int32)]) (rest := []) ⟨hx, hb, hml, hown, hts⟩ (mt_X6_can l G base h) (cwV 1 hts gX6_isAsked_X6_can rfl rfl rfl (by decide +kernel) ⟨Nat.le_of_ble_eq_true rfl, Nat.le_of_ble_eq_true rfl⟩) (xp_V hbase hh hK hX hS (ci := 6) g19 (by decide) rfl) rfl rfl hl.1 rfl (lv_room (Nat.le_of_ble_eq_true rfl)) dX6_isAsked_43 ⟨Nat.le_of_ble_eq_true rfl, Nat.le_of_ble_eq_true rfl⟩) hS (fun r20 m21 H locs h hh hS => ?_)
          exact (xe_z hx hb hr hlocks hbase hh hK hX hS h.1 h.2 (Nat.le_of_ble_eq_true rfl) (Nat.le_of_ble_eq_true rfl) dX6_isAsked_46)
      · replace h := h.2 c11
        refine lv_iconst (v := 2) hx hb dX6_isAsked_24 (by decide) ?_
        refine lv_goto (tgt := 43) hx hb dX6_isAsked_25 (by decide) ?_
        obtain ⟨g22, h⟩ := h
        refine xc_i (va_runV (As := [.int (2 : Int32)]) (rest := []) ⟨hx, hb, hml, hown, hts⟩ (mt_X6_can l G base h) (cwV 1 hts gX6_isAsked_X6_can rfl rfl rfl (by decide +kernel) ⟨Nat.le_of_ble_eq_true rfl, Nat.le_of_ble_eq_true rfl⟩) (xp_V hbase hh hK hX hS (ci := 6) g22 (by decide) rfl) rfl rfl hl.1 rfl (lv_room (Nat.le_of_ble_eq_true rfl)) dX6_isAsked_43 ⟨Nat.le_of_ble_eq_true rfl, Nat.le_of_ble_eq_true rfl⟩) hS (fun r23 m24 H locs h hh hS => ?_)
        exact (xe_z hx hb hr hlocks hbase hh hK hX hS h.1 h.2 (Nat.le_of_ble_eq_true rfl) (Nat.le_of_ble_eq_true rfl) dX6_isAsked_46)
  · replace h := h.2 c4
    refine lv_iconst (v := 1) hx hb dX6_isAsked_9 (by decide) ?_
    refine lv_goto (tgt := 43) hx hb dX6_isAsked_10 (by decide) ?_
    obtain ⟨g25, h⟩ := h
    refine xc_i (va_runV (As := [.int (1 : Int32)]) (rest := []) ⟨hx, hb, hml, hown, hts⟩ (mt_X6_can l G base h) (cwV 1 hts gX6_isAsked_X6_can rfl rfl rfl (by decide +kernel) ⟨Nat.le_of_ble_eq_true rfl, Nat.le_of_ble_eq_true rfl⟩) (xp_V hbase hh hK hX hS (ci := 6) g25 (by decide) rfl) rfl rfl hl.1 rfl (lv_room (Nat.le_of_ble_eq_true rfl)) dX6_isAsked_43 ⟨Nat.le_of_ble_eq_true rfl, Nat.le_of_ble_eq_true rfl⟩) hS (fun r26 m27 H locs h hh hS => ?_)
    exact (xe_z hx hb hr hlocks hbase hh hK hX hS h.1 h.2 (Nat.le_of_ble_eq_true rfl) (Nat.le_of_ble_eq_true rfl) dX6_isAsked_46)

set_option maxHeartbeats 4000000 in
set_option maxRecDepth 100000 in
theorem mt_X6_count (l : Launch) (G : GG) (base : Nat) {a0 : Nat} {p1 : Int32} {p2 : Int32} {p3 : Int32} {m0 : MM} {Q : Int32 → MM → Prop} (h : wp_X6_count a0 p1 p2 p3 m0 Q) : Met l yX6_count wsX6_count ({ frames := 4, cells := 0, slots := 0, locals := 99 }) (va_Pc [.ref a0, .int p1, .int p2, .int p3] (SP G base m0)) (va_Qi Q (HB G base) (xA base)) 0 0 (xA base) := by
  refine Met.ofW (cc := cX6_count) (maxL := 4) (ret := (some .int)) (by decide) rfl ?_
  intro p e s m args below meth c s₁ B hml hv
  obtain ⟨rfl, hbase, hh, hK, hX⟩ := hv
  have C0 : BC p s m _ meth c G base RX6 cX6_count 4 (some .int) wsX6_count := ⟨B.exec, B.bytes, B.returns, hml, findClass_of_methodNamed B.named, atoms_spec (ws := wsX6_count) B.pre, B.notSynchronized, hK, hbase, hX⟩
  obtain ⟨hx, hb, hr, -, hown, hts, hlocks, -, -, -⟩ := id C0
  have hS : va_S (xA base) s.heap s.heap [] := va_S.rf
  have hl := lv_entry ([.ref a0, .int p1, .int p2, .int p3]) (n := 4) (Nat.le_of_ble_eq_true rfl)
  rw [lg_entry_eq]
  generalize (lg_sl ([.ref a0, .int p1, .int p2, .int p3]) ++ List.replicate (4 - (lg_sl ([.ref a0, .int p1, .int p2, .int p3])).length) Slot.unset).toArray = ls at hl ⊢
  have hl : lv_has ls 4 [(0, .ref a0), (1, .int p1), (2, .int p2), (3, .int p3)] := hl
  unfold wp_X6_count at h
  have hL6 : ∀ w ∈ u_ws RX6 TX6 17, w.before _ s = true := fun w h9 => hts w (List.mem_cons_of_mem _ (List.mem_append_right _ (h9)))
  have q2 : (Cond.fieldLink RX6 114 "RollupStoreModel" "many" "I").before _ s = true := hts _ (List.mem_cons_of_mem _ (List.mem_append_left _ (List.mem_append_left _ (List.mem_of_getElem? (i := 0) rfl))))
  refine lv_aload_n hx hb dX6_count_0 rfl (lv_at hl 0 rfl) ?_
  refine lv_iload_n hx hb dX6_count_1 rfl (lv_at hl 1 rfl) ?_
  refine lv_iload_n hx hb dX6_count_2 rfl (lv_at hl 2 rfl) ?_
  refine lv_iload_n hx hb dX6_count_3 rfl (lv_at hl 3 rfl) ?_
  obtain ⟨g1, h⟩ := h
  refine xc_i (va_runV (As := [.int p1, .int p2, .int p3]) (rest := []) ⟨hx, hb, hml, hown, hts⟩ (mt_X6_isAsked l G base h) (cwV 3 hts gX6_count_X6_isAsked rfl rfl rfl (by decide +kernel) ⟨Nat.le_of_ble_eq_true rfl, Nat.le_of_ble_eq_true rfl⟩) (xp_V hbase hh hK hX hS (ci := 6) g1 (by decide) rfl) rfl rfl hl.1 rfl (lv_room (Nat.le_of_ble_eq_true rfl)) dX6_count_4 ⟨Nat.le_of_ble_eq_true rfl, Nat.le_of_ble_eq_true rfl⟩) hS (fun r2 m3 H locs h hh hS => ?_)
  refine lv_if_eq (tgt := 17) hx hb dX6_count_7 (by decide) (fun c4 => ?_) (fun c4 => ?_)
  · replace h := h.1 c4
    refine lv_iconst (v := 0) hx hb dX6_count_17 (by decide) ?_
    exact (xe_i hx hb hr hlocks hbase hh hK hX hS h (Nat.le_of_ble_eq_true rfl) (Nat.le_of_ble_eq_true rfl) dX6_count_18)
  · replace h := h.2 c4
    refine lv_aload_n hx hb dX6_count_10 rfl (lv_at hl 0 rfl) ?_
    obtain ⟨g5, h⟩ := h
    refine xr_getI (ci := 6) (C := RX6) (T := TX6) (N := 17) hx hb hL6 hown hK hh g5 (by decide) rfl 9 129 rfl rfl (by decide) (by decide) q2 (fun _ h9 => h9) dX6_count_11 ?_
    refine lv_goto (tgt := 18) hx hb dX6_count_14 (by decide) ?_
    exact (xe_i hx hb hr hlocks hbase hh hK hX hS h (Nat.le_of_ble_eq_true rfl) (Nat.le_of_ble_eq_true rfl) dX6_count_18)

set_option maxHeartbeats 4000000 in
set_option maxRecDepth 100000 in
theorem mt_X6_sum (l : Launch) (G : GG) (base : Nat) {a0 : Nat} {p1 : Int32} {p2 : Int32} {p3 : Int32} {m0 : MM} {Q : Int64 → MM → Prop} (h : wp_X6_sum a0 p1 p2 p3 m0 Q) : Met l yX6_sum wsX6_sum ({ frames := 4, cells := 0, slots := 0, locals := 99 }) (va_Pc [.ref a0, .int p1, .int p2, .int p3] (SP G base m0)) (va_Ql Q (HB G base) (xA base)) 0 0 (xA base) := by
  refine Met.ofW (cc := cX6_sum) (maxL := 4) (ret := (some .long)) (by decide) rfl ?_
  intro p e s m args below meth c s₁ B hml hv
  obtain ⟨rfl, hbase, hh, hK, hX⟩ := hv
  have C0 : BC p s m _ meth c G base RX6 cX6_sum 4 (some .long) wsX6_sum := ⟨B.exec, B.bytes, B.returns, hml, findClass_of_methodNamed B.named, atoms_spec (ws := wsX6_sum) B.pre, B.notSynchronized, hK, hbase, hX⟩
  obtain ⟨hx, hb, hr, -, hown, hts, hlocks, -, -, -⟩ := id C0
  have hS : va_S (xA base) s.heap s.heap [] := va_S.rf
  have hl := lv_entry ([.ref a0, .int p1, .int p2, .int p3]) (n := 4) (Nat.le_of_ble_eq_true rfl)
  rw [lg_entry_eq]
  generalize (lg_sl ([.ref a0, .int p1, .int p2, .int p3]) ++ List.replicate (4 - (lg_sl ([.ref a0, .int p1, .int p2, .int p3])).length) Slot.unset).toArray = ls at hl ⊢
  have hl : lv_has ls 4 [(0, .ref a0), (1, .int p1), (2, .int p2), (3, .int p3)] := hl
  unfold wp_X6_sum at h
  have hL6 : ∀ w ∈ u_ws RX6 TX6 17, w.before _ s = true := fun w h9 => hts w (List.mem_cons_of_mem _ (List.mem_append_right _ (h9)))
  have q2 : (Cond.fieldLink RX6 117 "RollupStoreModel" "sum" "J").before _ s = true := hts _ (List.mem_cons_of_mem _ (List.mem_append_left _ (List.mem_append_left _ (List.mem_of_getElem? (i := 0) rfl))))
  refine lv_aload_n hx hb dX6_sum_0 rfl (lv_at hl 0 rfl) ?_
  refine lv_iload_n hx hb dX6_sum_1 rfl (lv_at hl 1 rfl) ?_
  refine lv_iload_n hx hb dX6_sum_2 rfl (lv_at hl 2 rfl) ?_
  refine lv_iload_n hx hb dX6_sum_3 rfl (lv_at hl 3 rfl) ?_
  obtain ⟨g1, h⟩ := h
  refine xc_i (va_runV (As := [.int p1, .int p2, .int p3]) (rest := []) ⟨hx, hb, hml, hown, hts⟩ (mt_X6_isAsked l G base h) (cwV 3 hts gX6_sum_X6_isAsked rfl rfl rfl (by decide +kernel) ⟨Nat.le_of_ble_eq_true rfl, Nat.le_of_ble_eq_true rfl⟩) (xp_V hbase hh hK hX hS (ci := 6) g1 (by decide) rfl) rfl rfl hl.1 rfl (lv_room (Nat.le_of_ble_eq_true rfl)) dX6_sum_4 ⟨Nat.le_of_ble_eq_true rfl, Nat.le_of_ble_eq_true rfl⟩) hS (fun r2 m3 H locs h hh hS => ?_)
  refine lv_if_eq (tgt := 17) hx hb dX6_sum_7 (by decide) (fun c4 => ?_) (fun c4 => ?_)
  · replace h := h.1 c4
    refine lv_lconst (v := 0) hx hb dX6_sum_17 (by decide) ?_
    exact (xe_l hx hb hr hlocks hbase hh hK hX hS h (Nat.le_of_ble_eq_true rfl) (Nat.le_of_ble_eq_true rfl) dX6_sum_18)
  · replace h := h.2 c4
    refine lv_aload_n hx hb dX6_sum_10 rfl (lv_at hl 0 rfl) ?_
    obtain ⟨g5, h⟩ := h
    refine xr_getJ (ci := 6) (C := RX6) (T := TX6) (N := 17) hx hb hL6 hown hK hh g5 (by decide) rfl 10 130 rfl rfl (by decide) (by decide) q2 (fun _ h9 => h9) dX6_sum_11 ?_
    refine lv_goto (tgt := 18) hx hb dX6_sum_14 (by decide) ?_
    exact (xe_l hx hb hr hlocks hbase hh hK hX hS h (Nat.le_of_ble_eq_true rfl) (Nat.le_of_ble_eq_true rfl) dX6_sum_18)

set_option maxHeartbeats 4000000 in
set_option maxRecDepth 100000 in
theorem mt_X6_average (l : Launch) (G : GG) (base : Nat) {a0 : Nat} {p1 : Int32} {p2 : Int32} {p3 : Int32} {m0 : MM} {Q : UInt64 → MM → Prop} (h : wp_X6_average a0 p1 p2 p3 m0 Q) : Met l yX6_average wsX6_average ({ frames := 4, cells := 0, slots := 0, locals := 99 }) (va_Pc [.ref a0, .int p1, .int p2, .int p3] (SP G base m0)) (va_Qd Q (HB G base) (xA base)) 0 0 (xA base) := by
  refine Met.ofW (cc := cX6_average) (maxL := 4) (ret := (some .double)) (by decide) rfl ?_
  intro p e s m args below meth c s₁ B hml hv
  obtain ⟨rfl, hbase, hh, hK, hX⟩ := hv
  have C0 : BC p s m _ meth c G base RX6 cX6_average 4 (some .double) wsX6_average := ⟨B.exec, B.bytes, B.returns, hml, findClass_of_methodNamed B.named, atoms_spec (ws := wsX6_average) B.pre, B.notSynchronized, hK, hbase, hX⟩
  obtain ⟨hx, hb, hr, -, hown, hts, hlocks, -, -, -⟩ := id C0
  have hS : va_S (xA base) s.heap s.heap [] := va_S.rf
  have hl := lv_entry ([.ref a0, .int p1, .int p2, .int p3]) (n := 4) (Nat.le_of_ble_eq_true rfl)
  rw [lg_entry_eq]
  generalize (lg_sl ([.ref a0, .int p1, .int p2, .int p3]) ++ List.replicate (4 - (lg_sl ([.ref a0, .int p1, .int p2, .int p3])).length) Slot.unset).toArray = ls at hl ⊢
  have hl : lv_has ls 4 [(0, .ref a0), (1, .int p1), (2, .int p2), (3, .int p3)] := hl
  unfold wp_X6_average at h
  have hL6 : ∀ w ∈ u_ws RX6 TX6 17, w.before _ s = true := fun w h9 => hts w (List.mem_cons_of_mem _ (List.mem_append_right _ (h9)))
  have q2 : (Cond.fieldLink RX6 117 "RollupStoreModel" "sum" "J").before _ s = true := hts _ (List.mem_cons_of_mem _ (List.mem_append_left _ (List.mem_append_left _ (List.mem_of_getElem? (i := 0) rfl))))
  have q3 : (Cond.fieldLink RX6 114 "RollupStoreModel" "many" "I").before _ s = true := hts _ (List.mem_cons_of_mem _ (List.mem_append_left _ (List.mem_append_left _ (List.mem_of_getElem? (i := 1) rfl))))
  refine lv_aload_n hx hb dX6_average_0 rfl (lv_at hl 0 rfl) ?_
  refine lv_iload_n hx hb dX6_average_1 rfl (lv_at hl 1 rfl) ?_
  refine lv_iload_n hx hb dX6_average_2 rfl (lv_at hl 2 rfl) ?_
  refine lv_iload_n hx hb dX6_average_3 rfl (lv_at hl 3 rfl) ?_
  obtain ⟨g1, h⟩ := h
  refine xc_i (va_runV (As := [.int p1, .int p2, .int p3]) (rest := []) ⟨hx, hb, hml, hown, hts⟩ (mt_X6_isAsked l G base h) (cwV 3 hts gX6_average_X6_isAsked rfl rfl rfl (by decide +kernel) ⟨Nat.le_of_ble_eq_true rfl, Nat.le_of_ble_eq_true rfl⟩) (xp_V hbase hh hK hX hS (ci := 6) g1 (by decide) rfl) rfl rfl hl.1 rfl (lv_room (Nat.le_of_ble_eq_true rfl)) dX6_average_4 ⟨Nat.le_of_ble_eq_true rfl, Nat.le_of_ble_eq_true rfl⟩) hS (fun r2 m3 H locs h hh hS => ?_)
  refine lv_if_eq (tgt := 24) hx hb dX6_average_7 (by decide) (fun c4 => ?_) (fun c4 => ?_)
  · replace h := h.1 c4
    refine lv_dconst0 hx hb dX6_average_24 ?_
    exact (xe_d hx hb hr hlocks hbase hh hK hX hS h (Nat.le_of_ble_eq_true rfl) (Nat.le_of_ble_eq_true rfl) dX6_average_25)
  · replace h := h.2 c4
    refine lv_aload_n hx hb dX6_average_10 rfl (lv_at hl 0 rfl) ?_
    obtain ⟨g5, h⟩ := h
    refine xr_getJ (ci := 6) (C := RX6) (T := TX6) (N := 17) hx hb hL6 hown hK hh g5 (by decide) rfl 10 130 rfl rfl (by decide) (by decide) q2 (fun _ h9 => h9) dX6_average_11 ?_
    refine lv_l2d hx hb dX6_average_14 ?_
    refine lv_aload_n hx hb dX6_average_15 rfl (lv_at hl 0 rfl) ?_
    obtain ⟨g6, h⟩ := h
    refine xr_getI (ci := 6) (C := RX6) (T := TX6) (N := 17) hx hb hL6 hown hK hh g6 (by decide) rfl 9 129 rfl rfl (by decide) (by decide) q3 (fun _ h9 => h9) dX6_average_16 ?_
    refine lv_i2d hx hb dX6_average_19 ?_
    obtain ⟨g7, h⟩ := h
    refine lv_ddiv hx hb dX6_average_20 g7 ?_
    refine lv_goto (tgt := 25) hx hb dX6_average_21 (by decide) ?_
    exact (xe_d hx hb hr hlocks hbase hh hK hX hS h (Nat.le_of_ble_eq_true rfl) (Nat.le_of_ble_eq_true rfl) dX6_average_25)

set_option maxHeartbeats 4000000 in
set_option maxRecDepth 100000 in
theorem mt_X6_least (l : Launch) (G : GG) (base : Nat) {a0 : Nat} {p1 : Int32} {p2 : Int32} {p3 : Int32} {m0 : MM} {Q : Int32 → MM → Prop} (h : wp_X6_least a0 p1 p2 p3 m0 Q) : Met l yX6_least wsX6_least ({ frames := 4, cells := 0, slots := 0, locals := 99 }) (va_Pc [.ref a0, .int p1, .int p2, .int p3] (SP G base m0)) (va_Qi Q (HB G base) (xA base)) 0 0 (xA base) := by
  refine Met.ofW (cc := cX6_least) (maxL := 4) (ret := (some .int)) (by decide) rfl ?_
  intro p e s m args below meth c s₁ B hml hv
  obtain ⟨rfl, hbase, hh, hK, hX⟩ := hv
  have C0 : BC p s m _ meth c G base RX6 cX6_least 4 (some .int) wsX6_least := ⟨B.exec, B.bytes, B.returns, hml, findClass_of_methodNamed B.named, atoms_spec (ws := wsX6_least) B.pre, B.notSynchronized, hK, hbase, hX⟩
  obtain ⟨hx, hb, hr, -, hown, hts, hlocks, -, -, -⟩ := id C0
  have hS : va_S (xA base) s.heap s.heap [] := va_S.rf
  have hl := lv_entry ([.ref a0, .int p1, .int p2, .int p3]) (n := 4) (Nat.le_of_ble_eq_true rfl)
  rw [lg_entry_eq]
  generalize (lg_sl ([.ref a0, .int p1, .int p2, .int p3]) ++ List.replicate (4 - (lg_sl ([.ref a0, .int p1, .int p2, .int p3])).length) Slot.unset).toArray = ls at hl ⊢
  have hl : lv_has ls 4 [(0, .ref a0), (1, .int p1), (2, .int p2), (3, .int p3)] := hl
  unfold wp_X6_least at h
  have hL6 : ∀ w ∈ u_ws RX6 TX6 17, w.before _ s = true := fun w h9 => hts w (List.mem_cons_of_mem _ (List.mem_append_right _ (h9)))
  have q2 : (Cond.fieldLink RX6 121 "RollupStoreModel" "least" "I").before _ s = true := hts _ (List.mem_cons_of_mem _ (List.mem_append_left _ (List.mem_append_left _ (List.mem_of_getElem? (i := 0) rfl))))
  refine lv_aload_n hx hb dX6_least_0 rfl (lv_at hl 0 rfl) ?_
  refine lv_iload_n hx hb dX6_least_1 rfl (lv_at hl 1 rfl) ?_
  refine lv_iload_n hx hb dX6_least_2 rfl (lv_at hl 2 rfl) ?_
  refine lv_iload_n hx hb dX6_least_3 rfl (lv_at hl 3 rfl) ?_
  obtain ⟨g1, h⟩ := h
  refine xc_i (va_runV (As := [.int p1, .int p2, .int p3]) (rest := []) ⟨hx, hb, hml, hown, hts⟩ (mt_X6_isAsked l G base h) (cwV 3 hts gX6_least_X6_isAsked rfl rfl rfl (by decide +kernel) ⟨Nat.le_of_ble_eq_true rfl, Nat.le_of_ble_eq_true rfl⟩) (xp_V hbase hh hK hX hS (ci := 6) g1 (by decide) rfl) rfl rfl hl.1 rfl (lv_room (Nat.le_of_ble_eq_true rfl)) dX6_least_4 ⟨Nat.le_of_ble_eq_true rfl, Nat.le_of_ble_eq_true rfl⟩) hS (fun r2 m3 H locs h hh hS => ?_)
  refine lv_if_eq (tgt := 17) hx hb dX6_least_7 (by decide) (fun c4 => ?_) (fun c4 => ?_)
  · replace h := h.1 c4
    refine lv_iconst (v := 0) hx hb dX6_least_17 (by decide) ?_
    exact (xe_i hx hb hr hlocks hbase hh hK hX hS h (Nat.le_of_ble_eq_true rfl) (Nat.le_of_ble_eq_true rfl) dX6_least_18)
  · replace h := h.2 c4
    refine lv_aload_n hx hb dX6_least_10 rfl (lv_at hl 0 rfl) ?_
    obtain ⟨g5, h⟩ := h
    refine xr_getI (ci := 6) (C := RX6) (T := TX6) (N := 17) hx hb hL6 hown hK hh g5 (by decide) rfl 11 131 rfl rfl (by decide) (by decide) q2 (fun _ h9 => h9) dX6_least_11 ?_
    refine lv_goto (tgt := 18) hx hb dX6_least_14 (by decide) ?_
    exact (xe_i hx hb hr hlocks hbase hh hK hX hS h (Nat.le_of_ble_eq_true rfl) (Nat.le_of_ble_eq_true rfl) dX6_least_18)

set_option maxHeartbeats 4000000 in
set_option maxRecDepth 100000 in
theorem mt_X6_greatest (l : Launch) (G : GG) (base : Nat) {a0 : Nat} {p1 : Int32} {p2 : Int32} {p3 : Int32} {m0 : MM} {Q : Int32 → MM → Prop} (h : wp_X6_greatest a0 p1 p2 p3 m0 Q) : Met l yX6_greatest wsX6_greatest ({ frames := 4, cells := 0, slots := 0, locals := 99 }) (va_Pc [.ref a0, .int p1, .int p2, .int p3] (SP G base m0)) (va_Qi Q (HB G base) (xA base)) 0 0 (xA base) := by
  refine Met.ofW (cc := cX6_greatest) (maxL := 4) (ret := (some .int)) (by decide) rfl ?_
  intro p e s m args below meth c s₁ B hml hv
  obtain ⟨rfl, hbase, hh, hK, hX⟩ := hv
  have C0 : BC p s m _ meth c G base RX6 cX6_greatest 4 (some .int) wsX6_greatest := ⟨B.exec, B.bytes, B.returns, hml, findClass_of_methodNamed B.named, atoms_spec (ws := wsX6_greatest) B.pre, B.notSynchronized, hK, hbase, hX⟩
  obtain ⟨hx, hb, hr, -, hown, hts, hlocks, -, -, -⟩ := id C0
  have hS : va_S (xA base) s.heap s.heap [] := va_S.rf
  have hl := lv_entry ([.ref a0, .int p1, .int p2, .int p3]) (n := 4) (Nat.le_of_ble_eq_true rfl)
  rw [lg_entry_eq]
  generalize (lg_sl ([.ref a0, .int p1, .int p2, .int p3]) ++ List.replicate (4 - (lg_sl ([.ref a0, .int p1, .int p2, .int p3])).length) Slot.unset).toArray = ls at hl ⊢
  have hl : lv_has ls 4 [(0, .ref a0), (1, .int p1), (2, .int p2), (3, .int p3)] := hl
  unfold wp_X6_greatest at h
  have hL6 : ∀ w ∈ u_ws RX6 TX6 17, w.before _ s = true := fun w h9 => hts w (List.mem_cons_of_mem _ (List.mem_append_right _ (h9)))
  have q2 : (Cond.fieldLink RX6 124 "RollupStoreModel" "greatest" "I").before _ s = true := hts _ (List.mem_cons_of_mem _ (List.mem_append_left _ (List.mem_append_left _ (List.mem_of_getElem? (i := 0) rfl))))
  refine lv_aload_n hx hb dX6_greatest_0 rfl (lv_at hl 0 rfl) ?_
  refine lv_iload_n hx hb dX6_greatest_1 rfl (lv_at hl 1 rfl) ?_
  refine lv_iload_n hx hb dX6_greatest_2 rfl (lv_at hl 2 rfl) ?_
  refine lv_iload_n hx hb dX6_greatest_3 rfl (lv_at hl 3 rfl) ?_
  obtain ⟨g1, h⟩ := h
  refine xc_i (va_runV (As := [.int p1, .int p2, .int p3]) (rest := []) ⟨hx, hb, hml, hown, hts⟩ (mt_X6_isAsked l G base h) (cwV 3 hts gX6_greatest_X6_isAsked rfl rfl rfl (by decide +kernel) ⟨Nat.le_of_ble_eq_true rfl, Nat.le_of_ble_eq_true rfl⟩) (xp_V hbase hh hK hX hS (ci := 6) g1 (by decide) rfl) rfl rfl hl.1 rfl (lv_room (Nat.le_of_ble_eq_true rfl)) dX6_greatest_4 ⟨Nat.le_of_ble_eq_true rfl, Nat.le_of_ble_eq_true rfl⟩) hS (fun r2 m3 H locs h hh hS => ?_)
  refine lv_if_eq (tgt := 17) hx hb dX6_greatest_7 (by decide) (fun c4 => ?_) (fun c4 => ?_)
  · replace h := h.1 c4
    refine lv_iconst (v := 0) hx hb dX6_greatest_17 (by decide) ?_
    exact (xe_i hx hb hr hlocks hbase hh hK hX hS h (Nat.le_of_ble_eq_true rfl) (Nat.le_of_ble_eq_true rfl) dX6_greatest_18)
  · replace h := h.2 c4
    refine lv_aload_n hx hb dX6_greatest_10 rfl (lv_at hl 0 rfl) ?_
    obtain ⟨g5, h⟩ := h
    refine xr_getI (ci := 6) (C := RX6) (T := TX6) (N := 17) hx hb hL6 hown hK hh g5 (by decide) rfl 12 132 rfl rfl (by decide) (by decide) q2 (fun _ h9 => h9) dX6_greatest_11 ?_
    refine lv_goto (tgt := 18) hx hb dX6_greatest_14 (by decide) ?_
    exact (xe_i hx hb hr hlocks hbase hh hK hX hS h (Nat.le_of_ble_eq_true rfl) (Nat.le_of_ble_eq_true rfl) dX6_greatest_18)

set_option maxHeartbeats 4000000 in
set_option maxRecDepth 100000 in
theorem mt_X6_first (l : Launch) (G : GG) (base : Nat) {a0 : Nat} {p1 : Int32} {p2 : Int32} {p3 : Int32} {m0 : MM} {Q : Int32 → MM → Prop} (h : wp_X6_first a0 p1 p2 p3 m0 Q) : Met l yX6_first wsX6_first ({ frames := 4, cells := 0, slots := 0, locals := 99 }) (va_Pc [.ref a0, .int p1, .int p2, .int p3] (SP G base m0)) (va_Qi Q (HB G base) (xA base)) 0 0 (xA base) := by
  refine Met.ofW (cc := cX6_first) (maxL := 4) (ret := (some .int)) (by decide) rfl ?_
  intro p e s m args below meth c s₁ B hml hv
  obtain ⟨rfl, hbase, hh, hK, hX⟩ := hv
  have C0 : BC p s m _ meth c G base RX6 cX6_first 4 (some .int) wsX6_first := ⟨B.exec, B.bytes, B.returns, hml, findClass_of_methodNamed B.named, atoms_spec (ws := wsX6_first) B.pre, B.notSynchronized, hK, hbase, hX⟩
  obtain ⟨hx, hb, hr, -, hown, hts, hlocks, -, -, -⟩ := id C0
  have hS : va_S (xA base) s.heap s.heap [] := va_S.rf
  have hl := lv_entry ([.ref a0, .int p1, .int p2, .int p3]) (n := 4) (Nat.le_of_ble_eq_true rfl)
  rw [lg_entry_eq]
  generalize (lg_sl ([.ref a0, .int p1, .int p2, .int p3]) ++ List.replicate (4 - (lg_sl ([.ref a0, .int p1, .int p2, .int p3])).length) Slot.unset).toArray = ls at hl ⊢
  have hl : lv_has ls 4 [(0, .ref a0), (1, .int p1), (2, .int p2), (3, .int p3)] := hl
  unfold wp_X6_first at h
  have hL6 : ∀ w ∈ u_ws RX6 TX6 17, w.before _ s = true := fun w h9 => hts w (List.mem_cons_of_mem _ (List.mem_append_right _ (h9)))
  have q2 : (Cond.fieldLink RX6 127 "RollupStoreModel" "first" "I").before _ s = true := hts _ (List.mem_cons_of_mem _ (List.mem_append_left _ (List.mem_append_left _ (List.mem_of_getElem? (i := 0) rfl))))
  refine lv_aload_n hx hb dX6_first_0 rfl (lv_at hl 0 rfl) ?_
  refine lv_iload_n hx hb dX6_first_1 rfl (lv_at hl 1 rfl) ?_
  refine lv_iload_n hx hb dX6_first_2 rfl (lv_at hl 2 rfl) ?_
  refine lv_iload_n hx hb dX6_first_3 rfl (lv_at hl 3 rfl) ?_
  obtain ⟨g1, h⟩ := h
  refine xc_i (va_runV (As := [.int p1, .int p2, .int p3]) (rest := []) ⟨hx, hb, hml, hown, hts⟩ (mt_X6_isAsked l G base h) (cwV 3 hts gX6_first_X6_isAsked rfl rfl rfl (by decide +kernel) ⟨Nat.le_of_ble_eq_true rfl, Nat.le_of_ble_eq_true rfl⟩) (xp_V hbase hh hK hX hS (ci := 6) g1 (by decide) rfl) rfl rfl hl.1 rfl (lv_room (Nat.le_of_ble_eq_true rfl)) dX6_first_4 ⟨Nat.le_of_ble_eq_true rfl, Nat.le_of_ble_eq_true rfl⟩) hS (fun r2 m3 H locs h hh hS => ?_)
  refine lv_if_eq (tgt := 17) hx hb dX6_first_7 (by decide) (fun c4 => ?_) (fun c4 => ?_)
  · replace h := h.1 c4
    refine lv_iconst (v := 0) hx hb dX6_first_17 (by decide) ?_
    exact (xe_i hx hb hr hlocks hbase hh hK hX hS h (Nat.le_of_ble_eq_true rfl) (Nat.le_of_ble_eq_true rfl) dX6_first_18)
  · replace h := h.2 c4
    refine lv_aload_n hx hb dX6_first_10 rfl (lv_at hl 0 rfl) ?_
    obtain ⟨g5, h⟩ := h
    refine xr_getI (ci := 6) (C := RX6) (T := TX6) (N := 17) hx hb hL6 hown hK hh g5 (by decide) rfl 13 133 rfl rfl (by decide) (by decide) q2 (fun _ h9 => h9) dX6_first_11 ?_
    refine lv_goto (tgt := 18) hx hb dX6_first_14 (by decide) ?_
    exact (xe_i hx hb hr hlocks hbase hh hK hX hS h (Nat.le_of_ble_eq_true rfl) (Nat.le_of_ble_eq_true rfl) dX6_first_18)

set_option maxHeartbeats 4000000 in
set_option maxRecDepth 100000 in
theorem mt_X6_last (l : Launch) (G : GG) (base : Nat) {a0 : Nat} {p1 : Int32} {p2 : Int32} {p3 : Int32} {m0 : MM} {Q : Int32 → MM → Prop} (h : wp_X6_last a0 p1 p2 p3 m0 Q) : Met l yX6_last wsX6_last ({ frames := 4, cells := 0, slots := 0, locals := 99 }) (va_Pc [.ref a0, .int p1, .int p2, .int p3] (SP G base m0)) (va_Qi Q (HB G base) (xA base)) 0 0 (xA base) := by
  refine Met.ofW (cc := cX6_last) (maxL := 4) (ret := (some .int)) (by decide) rfl ?_
  intro p e s m args below meth c s₁ B hml hv
  obtain ⟨rfl, hbase, hh, hK, hX⟩ := hv
  have C0 : BC p s m _ meth c G base RX6 cX6_last 4 (some .int) wsX6_last := ⟨B.exec, B.bytes, B.returns, hml, findClass_of_methodNamed B.named, atoms_spec (ws := wsX6_last) B.pre, B.notSynchronized, hK, hbase, hX⟩
  obtain ⟨hx, hb, hr, -, hown, hts, hlocks, -, -, -⟩ := id C0
  have hS : va_S (xA base) s.heap s.heap [] := va_S.rf
  have hl := lv_entry ([.ref a0, .int p1, .int p2, .int p3]) (n := 4) (Nat.le_of_ble_eq_true rfl)
  rw [lg_entry_eq]
  generalize (lg_sl ([.ref a0, .int p1, .int p2, .int p3]) ++ List.replicate (4 - (lg_sl ([.ref a0, .int p1, .int p2, .int p3])).length) Slot.unset).toArray = ls at hl ⊢
  have hl : lv_has ls 4 [(0, .ref a0), (1, .int p1), (2, .int p2), (3, .int p3)] := hl
  unfold wp_X6_last at h
  have hL6 : ∀ w ∈ u_ws RX6 TX6 17, w.before _ s = true := fun w h9 => hts w (List.mem_cons_of_mem _ (List.mem_append_right _ (h9)))
  have q2 : (Cond.fieldLink RX6 130 "RollupStoreModel" "last" "I").before _ s = true := hts _ (List.mem_cons_of_mem _ (List.mem_append_left _ (List.mem_append_left _ (List.mem_of_getElem? (i := 0) rfl))))
  refine lv_aload_n hx hb dX6_last_0 rfl (lv_at hl 0 rfl) ?_
  refine lv_iload_n hx hb dX6_last_1 rfl (lv_at hl 1 rfl) ?_
  refine lv_iload_n hx hb dX6_last_2 rfl (lv_at hl 2 rfl) ?_
  refine lv_iload_n hx hb dX6_last_3 rfl (lv_at hl 3 rfl) ?_
  obtain ⟨g1, h⟩ := h
  refine xc_i (va_runV (As := [.int p1, .int p2, .int p3]) (rest := []) ⟨hx, hb, hml, hown, hts⟩ (mt_X6_isAsked l G base h) (cwV 3 hts gX6_last_X6_isAsked rfl rfl rfl (by decide +kernel) ⟨Nat.le_of_ble_eq_true rfl, Nat.le_of_ble_eq_true rfl⟩) (xp_V hbase hh hK hX hS (ci := 6) g1 (by decide) rfl) rfl rfl hl.1 rfl (lv_room (Nat.le_of_ble_eq_true rfl)) dX6_last_4 ⟨Nat.le_of_ble_eq_true rfl, Nat.le_of_ble_eq_true rfl⟩) hS (fun r2 m3 H locs h hh hS => ?_)
  refine lv_if_eq (tgt := 17) hx hb dX6_last_7 (by decide) (fun c4 => ?_) (fun c4 => ?_)
  · replace h := h.1 c4
    refine lv_iconst (v := 0) hx hb dX6_last_17 (by decide) ?_
    exact (xe_i hx hb hr hlocks hbase hh hK hX hS h (Nat.le_of_ble_eq_true rfl) (Nat.le_of_ble_eq_true rfl) dX6_last_18)
  · replace h := h.2 c4
    refine lv_aload_n hx hb dX6_last_10 rfl (lv_at hl 0 rfl) ?_
    obtain ⟨g5, h⟩ := h
    refine xr_getI (ci := 6) (C := RX6) (T := TX6) (N := 17) hx hb hL6 hown hK hh g5 (by decide) rfl 14 134 rfl rfl (by decide) (by decide) q2 (fun _ h9 => h9) dX6_last_11 ?_
    refine lv_goto (tgt := 18) hx hb dX6_last_14 (by decide) ?_
    exact (xe_i hx hb hr hlocks hbase hh hK hX hS h (Nat.le_of_ble_eq_true rfl) (Nat.le_of_ble_eq_true rfl) dX6_last_18)

set_option maxHeartbeats 4000000 in
set_option maxRecDepth 100000 in
theorem bk_X6_filled_218 {p : Program} {l : Launch} {e : Env} {s : State} {m : MethodId} {args : Array Value} {below : List Frame} {meth : Method} {c : Code} {G : GG} {base : Nat} (C0 : BC p s m args meth c G base RX6 cX6_filled 14 (some .int) wsX6_filled) {Q : Int32 → MM → Prop} : ∀ (l0 : Nat) (l1 : Int32) (l2 : Int32) (l4 : Int32) (l5 : Int32) (l6 : Int32) (l7 : Int32) (s0 : Int32) (s1 : Nat) (m0 : MM) (H : Heap) (locs : List Loc) (ls : Array Slot), wp_X6_filled_218 Q l0 l1 l2 l4 l5 l6 l7 s0 s1 m0 → hp G (xA base) m0 H → va_S (xA base) s.heap H locs → lv_has ls 14 [(0, .ref l0), (1, .int l1), (2, .int l2), (4, .int l4), (5, .int l5), (6, .int l6), (7, .int l7)] → W p l e ({ frames := 3, cells := 0, slots := 0, locals := 76 } : Room) s m args below meth c H locs 0 0 (MQ below (va_Qi Q (HB G base) (xA base)) args s 0 0 (xA base)) (F0 m 218 ls [.int s0, .ref s1]) := by
  obtain ⟨hx, hb, hr, hml, hown, hts, hlocks, hK, hbase, hX⟩ := id C0
  intro l0 l1 l2 l4 l5 l6 l7 s0 s1 m0 H locs ls h hh hS hl
  unfold wp_X6_filled_218 at h
  have hL6 : ∀ w ∈ u_ws RX6 TX6 17, w.before _ s = true := fun w h9 => hts w (List.mem_cons_of_mem _ (List.mem_append_right _ (h9)))
  have q2 : (Cond.fieldLink RX6 25 "RollupStoreModel" "value" "[I").before _ s = true := hts _ (List.mem_cons_of_mem _ (List.mem_append_left _ (List.mem_append_left _ (List.mem_of_getElem? (i := 4) rfl))))
  have q3 : (Cond.fieldLink RX6 22 "RollupStoreModel" "time" "[I").before _ s = true := hts _ (List.mem_cons_of_mem _ (List.mem_append_left _ (List.mem_append_left _ (List.mem_of_getElem? (i := 3) rfl))))
  have q4 : (Cond.fieldLink RX6 130 "RollupStoreModel" "last" "I").before _ s = true := hts _ (List.mem_cons_of_mem _ (List.mem_append_left _ (List.mem_append_left _ (List.mem_of_getElem? (i := 0) rfl))))
  obtain ⟨g25, h⟩ := h
  refine xc_i (va_runV (As := [.int s0]) (rest := []) ⟨hx, hb, hml, hown, hts⟩ (mt_X6_can l G base h) (cwV 1 hts gX6_filled_X6_can rfl rfl rfl (by decide +kernel) ⟨Nat.le_of_ble_eq_true rfl, Nat.le_of_ble_eq_true rfl⟩) (xp_V hbase hh hK hX hS (ci := 6) g25 (by decide) rfl) rfl rfl hl.1 rfl (lv_room (Nat.le_of_ble_eq_true rfl)) dX6_filled_218 ⟨Nat.le_of_ble_eq_true rfl, Nat.le_of_ble_eq_true rfl⟩) hS (fun r26 m27 H locs h hh hS => ?_)
  refine lv_if_eq (tgt := 229) hx hb dX6_filled_221 (by decide) (fun c28 => ?_) (fun c28 => ?_)
  · replace h := h.1 c28
    refine lv_iconst (v := 0) hx hb dX6_filled_229 (by decide) ?_
    exact (xe_i hx hb hr hlocks hbase hh hK hX hS h (Nat.le_of_ble_eq_true rfl) (Nat.le_of_ble_eq_true rfl) dX6_filled_230)
  · replace h := h.2 c28
    refine lv_iload hx hb dX6_filled_224 (lv_at hl 3 rfl) ?_
    refine lv_if_ne (tgt := 231) hx hb dX6_filled_226 (by decide) (fun c29 => ?_) (fun c29 => ?_)
    · replace h := h.1 c29
      refine lv_aload_n hx hb dX6_filled_231 rfl (lv_at hl 0 rfl) ?_
      obtain ⟨g30, h⟩ := h
      obtain ⟨b31, eb31, h⟩ := h
      refine xr_getR (ci := 6) (C := RX6) (T := TX6) (N := 17) hx hb hL6 hown hK hh g30 (by decide) rfl 8 128 rfl rfl (by decide) (by decide) q2 (fun _ h9 => h9) eb31 dX6_filled_232 ?_
      refine lv_iload hx hb dX6_filled_235 (lv_at hl 5 rfl) ?_
      obtain ⟨g32, h⟩ := h
      obtain ⟨g33, h⟩ := h
      refine xr_iald hx hb hK hh g32 g33 dX6_filled_237 ?_
      refine lv_topi (fun x34 ex34 => ?_)
      replace h := h x34 ex34
      refine lv_istore (lv' := [(8, .int x34), (0, .ref l0), (1, .int l1), (2, .int l2), (4, .int l4), (5, .int l5), (6, .int l6), (7, .int l7)]) hx hb dX6_filled_238 hl (by decide) rfl (fun ls hl => ?_)
      refine lv_iload hx hb dX6_filled_240 (lv_at hl 4 rfl) ?_
      refine lv_iconst (v := 2) hx hb dX6_filled_242 (by decide) ?_
      refine lv_icmp_eq (tgt := 249) hx hb dX6_filled_243 (by decide) (fun c35 => ?_) (fun c35 => ?_)
      · replace h := h.1 c35
        refine lv_iload_n hx hb dX6_filled_249 rfl (lv_at hl 3 rfl) ?_
        refine lv_aload_n hx hb dX6_filled_250 rfl (lv_at hl 1 rfl) ?_
        obtain ⟨g36, h⟩ := h
        obtain ⟨b37, eb37, h⟩ := h
        refine xr_getR (ci := 6) (C := RX6) (T := TX6) (N := 17) hx hb hL6 hown hK hh g36 (by decide) rfl 7 127 rfl rfl (by decide) (by decide) q3 (fun _ h9 => h9) eb37 dX6_filled_251 ?_
        refine lv_iload hx hb dX6_filled_254 (lv_at hl 6 rfl) ?_
        obtain ⟨g38, h⟩ := h
        obtain ⟨g39, h⟩ := h
        refine xr_iald hx hb hK hh g38 g39 dX6_filled_256 ?_
        refine xc_i (va_runS (As := [.int l2, .int (mAI m27 b37 l6.toNatClampNeg)]) (rest := []) ⟨hx, hb, hml, hown, hts⟩ (mt_X6_begin l G base h) (va_cwS 2 hts gX6_filled_X6_begin rfl rfl rfl (by decide +kernel) ⟨Nat.le_of_ble_eq_true rfl, Nat.le_of_ble_eq_true rfl⟩) (xp_S hbase hh hK hX hS) rfl rfl hl.1 rfl (lv_room (Nat.le_of_ble_eq_true rfl)) dX6_filled_257 ⟨Nat.le_of_ble_eq_true rfl, Nat.le_of_ble_eq_true rfl⟩) hS (fun r40 m41 H locs h hh hS => ?_)
        refine lv_i2l hx hb dX6_filled_260 rfl ?_
        refine lv_topl (fun x42 ex42 => ?_)
        replace h := h x42 ex42
        refine lv_lstore (lv' := [(9, .long x42), (8, .int x34), (0, .ref l0), (1, .int l1), (2, .int l2), (4, .int l4), (5, .int l5), (6, .int l6), (7, .int l7)]) hx hb dX6_filled_261 hl (by decide) rfl (fun ls hl => ?_)
        refine lv_iload_n hx hb dX6_filled_263 rfl (lv_at hl 4 rfl) ?_
        refine lv_aload_n hx hb dX6_filled_264 rfl (lv_at hl 2 rfl) ?_
        obtain ⟨g43, h⟩ := h
        obtain ⟨b44, eb44, h⟩ := h
        refine xr_getR (ci := 6) (C := RX6) (T := TX6) (N := 17) hx hb hL6 hown hK hh g43 (by decide) rfl 7 127 rfl rfl (by decide) (by decide) q3 (fun _ h9 => h9) eb44 dX6_filled_265 ?_
        refine lv_iload hx hb dX6_filled_268 (lv_at hl 8 rfl) ?_
        obtain ⟨g45, h⟩ := h
        obtain ⟨g46, h⟩ := h
        refine xr_iald hx hb hK hh g45 g46 dX6_filled_270 ?_
        refine xc_i (va_runS (As := [.int l2, .int (mAI m41 b44 l7.toNatClampNeg)]) (rest := []) ⟨hx, hb, hml, hown, hts⟩ (mt_X6_begin l G base h) (va_cwS 2 hts gX6_filled_X6_begin rfl rfl rfl (by decide +kernel) ⟨Nat.le_of_ble_eq_true rfl, Nat.le_of_ble_eq_true rfl⟩) (xp_S hbase hh hK hX hS) rfl rfl hl.1 rfl (lv_room (Nat.le_of_ble_eq_true rfl)) dX6_filled_271 ⟨Nat.le_of_ble_eq_true rfl, Nat.le_of_ble_eq_true rfl⟩) hS (fun r47 m48 H locs h hh hS => ?_)
        refine lv_i2l hx hb dX6_filled_274 rfl ?_
        refine lv_topl (fun x49 ex49 => ?_)
        replace h := h x49 ex49
        refine lv_lstore (lv' := [(11, .long x49), (9, .long x42), (8, .int x34), (0, .ref l0), (1, .int l1), (2, .int l2), (4, .int l4), (5, .int l5), (6, .int l6), (7, .int l7)]) hx hb dX6_filled_275 hl (by decide) rfl (fun ls hl => ?_)
        refine lv_aload_n hx hb dX6_filled_277 rfl (lv_at hl 3 rfl) ?_
        refine lv_iload_n hx hb dX6_filled_278 rfl (lv_at hl 4 rfl) ?_
        refine lv_iload_n hx hb dX6_filled_279 rfl (lv_at hl 5 rfl) ?_
        refine lv_aload_n hx hb dX6_filled_280 rfl (lv_at hl 3 rfl) ?_
        obtain ⟨g50, h⟩ := h
        obtain ⟨b51, eb51, h⟩ := h
        refine xr_getR (ci := 6) (C := RX6) (T := TX6) (N := 17) hx hb hL6 hown hK hh g50 (by decide) rfl 7 127 rfl rfl (by decide) (by decide) q3 (fun _ h9 => h9) eb51 dX6_filled_281 ?_
        refine lv_iload hx hb dX6_filled_284 (lv_at hl 9 rfl) ?_
        obtain ⟨g52, h⟩ := h
        obtain ⟨g53, h⟩ := h
        refine xr_iald hx hb hK hh g52 g53 dX6_filled_286 ?_
        obtain ⟨g54, h⟩ := h
        refine xc_i (va_runV (As := [.int l1, .int l2, .int (mAI m48 b51 l7.toNatClampNeg)]) (rest := []) ⟨hx, hb, hml, hown, hts⟩ (mt_X6_looks l G base h) (cwV 3 hts gX6_filled_X6_looks rfl rfl rfl (by decide +kernel) ⟨Nat.le_of_ble_eq_true rfl, Nat.le_of_ble_eq_true rfl⟩) (xp_V hbase hh hK hX hS (ci := 6) g54 (by decide) rfl) rfl rfl hl.1 rfl (lv_room (Nat.le_of_ble_eq_true rfl)) dX6_filled_287 ⟨Nat.le_of_ble_eq_true rfl, Nat.le_of_ble_eq_true rfl⟩) hS (fun r55 m56 H locs h hh hS => ?_)
        refine lv_istore (lv' := [(13, .int r55), (11, .long x49), (9, .long x42), (8, .int x34), (0, .ref l0), (1, .int l1), (2, .int l2), (4, .int l4), (5, .int l5), (6, .int l6), (7, .int l7)]) hx hb dX6_filled_290 hl (by decide) rfl (fun ls hl => ?_)
        refine lv_iload hx hb dX6_filled_292 (lv_at hl 3 rfl) ?_
        refine lv_aload_n hx hb dX6_filled_294 rfl (lv_at hl 4 rfl) ?_
        obtain ⟨g57, h⟩ := h
        refine xr_getI (ci := 6) (C := RX6) (T := TX6) (N := 17) hx hb hL6 hown hK hh g57 (by decide) rfl 14 134 rfl rfl (by decide) (by decide) q4 (fun _ h9 => h9) dX6_filled_295 ?_
        refine lv_iload hx hb dX6_filled_298 (lv_at hl 3 rfl) ?_
        refine lv_isub hx hb dX6_filled_300 ?_
        refine lv_i2l hx hb dX6_filled_301 rfl ?_
        refine lv_iload hx hb dX6_filled_302 (lv_at hl 8 rfl) ?_
        refine lv_i2l hx hb dX6_filled_304 rfl ?_
        refine lv_lload hx hb dX6_filled_305 (lv_at hl 2 rfl) ?_
        refine lv_lsub hx hb dX6_filled_307 ?_
        refine lv_lmul hx hb dX6_filled_308 ?_
        refine lv_lload hx hb dX6_filled_309 (lv_at hl 1 rfl) ?_
        refine lv_lload hx hb dX6_filled_311 (lv_at hl 2 rfl) ?_
        refine lv_lsub hx hb dX6_filled_313 ?_
        obtain ⟨g58, h⟩ := h
        refine lv_ldiv hx hb dX6_filled_314 g58 ?_
        refine lv_l2i hx hb dX6_filled_315 rfl ?_
        refine lv_iadd hx hb dX6_filled_316 ?_
        exact (xe_i hx hb hr hlocks hbase hh hK hX hS h (Nat.le_of_ble_eq_true rfl) (Nat.le_of_ble_eq_true rfl) dX6_filled_317)
      · replace h := h.2 c35
        refine lv_iload hx hb dX6_filled_246 (lv_at hl 0 rfl) ?_
        exact (xe_i hx hb hr hlocks hbase hh hK hX hS h (Nat.le_of_ble_eq_true rfl) (Nat.le_of_ble_eq_true rfl) dX6_filled_248)
    · replace h := h.2 c29
      refine lv_iconst (v := 0) hx hb dX6_filled_229 (by decide) ?_
      exact (xe_i hx hb hr hlocks hbase hh hK hX hS h (Nat.le_of_ble_eq_true rfl) (Nat.le_of_ble_eq_true rfl) dX6_filled_230)

set_option maxHeartbeats 4000000 in
set_option maxRecDepth 100000 in
theorem bk_X6_filled_217 {p : Program} {l : Launch} {e : Env} {s : State} {m : MethodId} {args : Array Value} {below : List Frame} {meth : Method} {c : Code} {G : GG} {base : Nat} (C0 : BC p s m args meth c G base RX6 cX6_filled 14 (some .int) wsX6_filled) {Q : Int32 → MM → Prop} : ∀ (l0 : Nat) (l1 : Int32) (l2 : Int32) (l4 : Int32) (l5 : Int32) (l6 : Int32) (l7 : Int32) (s0 : Nat) (m0 : MM) (H : Heap) (locs : List Loc) (ls : Array Slot), wp_X6_filled_217 Q l0 l1 l2 l4 l5 l6 l7 s0 m0 → hp G (xA base) m0 H → va_S (xA base) s.heap H locs → lv_has ls 14 [(0, .ref l0), (1, .int l1), (2, .int l2), (4, .int l4), (5, .int l5), (6, .int l6), (7, .int l7)] → W p l e ({ frames := 3, cells := 0, slots := 0, locals := 76 } : Room) s m args below meth c H locs 0 0 (MQ below (va_Qi Q (HB G base) (xA base)) args s 0 0 (xA base)) (F0 m 217 ls [.ref s0]) := by
  obtain ⟨hx, hb, hr, hml, hown, hts, hlocks, hK, hbase, hX⟩ := id C0
  intro l0 l1 l2 l4 l5 l6 l7 s0 m0 H locs ls h hh hS hl
  unfold wp_X6_filled_217 at h
  refine lv_iconst (v := 0) hx hb dX6_filled_217 (by decide) ?_
  exact bk_X6_filled_218 C0  _ _ _ _ _ _ _ _ _ _ _ _ _ h hh hS (lv_sub hl [0, 1, 2, 3, 4, 5, 6] rfl)

set_option maxHeartbeats 4000000 in
set_option maxRecDepth 100000 in
theorem bk_X6_filled_213 {p : Program} {l : Launch} {e : Env} {s : State} {m : MethodId} {args : Array Value} {below : List Frame} {meth : Method} {c : Code} {G : GG} {base : Nat} (C0 : BC p s m args meth c G base RX6 cX6_filled 14 (some .int) wsX6_filled) {Q : Int32 → MM → Prop} : ∀ (l0 : Nat) (l1 : Int32) (l2 : Int32) (l4 : Int32) (l5 : Int32) (l6 : Int32) (l7 : Int32) (s0 : Nat) (m0 : MM) (H : Heap) (locs : List Loc) (ls : Array Slot), wp_X6_filled_213 Q l0 l1 l2 l4 l5 l6 l7 s0 m0 → hp G (xA base) m0 H → va_S (xA base) s.heap H locs → lv_has ls 14 [(0, .ref l0), (1, .int l1), (2, .int l2), (4, .int l4), (5, .int l5), (6, .int l6), (7, .int l7)] → W p l e ({ frames := 3, cells := 0, slots := 0, locals := 76 } : Room) s m args below meth c H locs 0 0 (MQ below (va_Qi Q (HB G base) (xA base)) args s 0 0 (xA base)) (F0 m 213 ls [.ref s0]) := by
  obtain ⟨hx, hb, hr, hml, hown, hts, hlocks, hK, hbase, hX⟩ := id C0
  intro l0 l1 l2 l4 l5 l6 l7 s0 m0 H locs ls h hh hS hl
  unfold wp_X6_filled_213 at h
  refine lv_iconst (v := 3) hx hb dX6_filled_213 (by decide) ?_
  refine lv_goto (tgt := 218) hx hb dX6_filled_214 (by decide) ?_
  exact bk_X6_filled_218 C0  _ _ _ _ _ _ _ _ _ _ _ _ _ h hh hS (lv_sub hl [0, 1, 2, 3, 4, 5, 6] rfl)

set_option maxHeartbeats 4000000 in
set_option maxRecDepth 100000 in
theorem bk_X6_filled_201 {p : Program} {l : Launch} {e : Env} {s : State} {m : MethodId} {args : Array Value} {below : List Frame} {meth : Method} {c : Code} {G : GG} {base : Nat} (C0 : BC p s m args meth c G base RX6 cX6_filled 14 (some .int) wsX6_filled) {Q : Int32 → MM → Prop} : ∀ (l0 : Nat) (l1 : Int32) (l2 : Int32) (l4 : Int32) (l5 : Int32) (l6 : Int32) (l7 : Int32) (s0 : Nat) (m0 : MM) (H : Heap) (locs : List Loc) (ls : Array Slot), wp_X6_filled_201 Q l0 l1 l2 l4 l5 l6 l7 s0 m0 → hp G (xA base) m0 H → va_S (xA base) s.heap H locs → lv_has ls 14 [(0, .ref l0), (1, .int l1), (2, .int l2), (4, .int l4), (5, .int l5), (6, .int l6), (7, .int l7)] → W p l e ({ frames := 3, cells := 0, slots := 0, locals := 76 } : Room) s m args below meth c H locs 0 0 (MQ below (va_Qi Q (HB G base) (xA base)) args s 0 0 (xA base)) (F0 m 201 ls [.ref s0]) := by
  obtain ⟨hx, hb, hr, hml, hown, hts, hlocks, hK, hbase, hX⟩ := id C0
  intro l0 l1 l2 l4 l5 l6 l7 s0 m0 H locs ls h hh hS hl
  unfold wp_X6_filled_201 at h
  refine lv_iload hx hb dX6_filled_201 (lv_at hl 3 rfl) ?_
  refine lv_iconst (v := 2) hx hb dX6_filled_203 (by decide) ?_
  refine lv_icmp_ne (tgt := 217) hx hb dX6_filled_204 (by decide) (fun c24 => ?_) (fun c24 => ?_)
  · replace h := h.1 c24
    exact bk_X6_filled_217 C0  _ _ _ _ _ _ _ _ _ _ _ _ h hh hS (lv_sub hl [0, 1, 2, 3, 4, 5, 6] rfl)
  · replace h := h.2 c24
    refine lv_iload hx hb dX6_filled_207 (lv_at hl 6 rfl) ?_
    refine lv_iconst (v := -1) hx hb dX6_filled_209 (by decide) ?_
    refine lv_icmp_ne (tgt := 217) hx hb dX6_filled_210 (by decide) (fun c59 => ?_) (fun c59 => ?_)
    · replace h := h.1 c59
      exact bk_X6_filled_217 C0  _ _ _ _ _ _ _ _ _ _ _ _ h hh hS (lv_sub hl [0, 1, 2, 3, 4, 5, 6] rfl)
    · replace h := h.2 c59
      exact bk_X6_filled_213 C0  _ _ _ _ _ _ _ _ _ _ _ _ h hh hS (lv_sub hl [0, 1, 2, 3, 4, 5, 6] rfl)

set_option maxHeartbeats 4000000 in
set_option maxRecDepth 100000 in
theorem bk_X6_filled_149 {p : Program} {l : Launch} {e : Env} {s : State} {m : MethodId} {args : Array Value} {below : List Frame} {meth : Method} {c : Code} {G : GG} {base : Nat} (C0 : BC p s m args meth c G base RX6 cX6_filled 14 (some .int) wsX6_filled) {Q : Int32 → MM → Prop} {K : Nat → Int32 → Int32 → Int32 → Int32 → Int32 → Int32 → Int32 → MM → Prop} (hK9 : ∀ (l0 : Nat) (l1 : Int32) (l2 : Int32) (l4 : Int32) (l5 : Int32) (l6 : Int32) (l7 : Int32) (l8 : Int32) (m0 : MM) (H : Heap) (locs : List Loc) (ls : Array Slot), K l0 l1 l2 l4 l5 l6 l7 l8 m0 → hp G (xA base) m0 H → va_S (xA base) s.heap H locs → lv_has ls 14 [(0, .ref l0), (1, .int l1), (2, .int l2), (4, .int l4), (5, .int l5), (6, .int l6), (7, .int l7), (8, .int l8)] → W p l e ({ frames := 3, cells := 0, slots := 0, locals := 76 } : Room) s m args below meth c H locs 0 0 (MQ below (va_Qi Q (HB G base) (xA base)) args s 0 0 (xA base)) (F0 m 78 ls [])) : ∀ (l0 : Nat) (l1 : Int32) (l2 : Int32) (l4 : Int32) (l5 : Int32) (l7 : Int32) (l8 : Int32) (l9 : Int32) (s0 : Int32) (m0 : MM) (H : Heap) (locs : List Loc) (ls : Array Slot), wp_X6_filled_149 Q K l0 l1 l2 l4 l5 l7 l8 l9 s0 m0 → hp G (xA base) m0 H → va_S (xA base) s.heap H locs → lv_has ls 14 [(0, .ref l0), (1, .int l1), (2, .int l2), (4, .int l4), (5, .int l5), (7, .int l7), (8, .int l8), (9, .int l9)] → W p l e ({ frames := 3, cells := 0, slots := 0, locals := 76 } : Room) s m args below meth c H locs 0 0 (MQ below (va_Qi Q (HB G base) (xA base)) args s 0 0 (xA base)) (F0 m 149 ls [.int s0]) := by
  obtain ⟨hx, hb, hr, hml, hown, hts, hlocks, hK, hbase, hX⟩ := id C0
  intro l0 l1 l2 l4 l5 l7 l8 l9 s0 m0 H locs ls h hh hS hl
  unfold wp_X6_filled_149 at h
  have hL6 : ∀ w ∈ u_ws RX6 TX6 17, w.before _ s = true := fun w h9 => hts w (List.mem_cons_of_mem _ (List.mem_append_right _ (h9)))
  have q2 : (Cond.fieldLink RX6 22 "RollupStoreModel" "time" "[I").before _ s = true := hts _ (List.mem_cons_of_mem _ (List.mem_append_left _ (List.mem_append_left _ (List.mem_of_getElem? (i := 3) rfl))))
  refine lv_istore (lv' := [(6, .int s0), (0, .ref l0), (1, .int l1), (2, .int l2), (4, .int l4), (5, .int l5), (7, .int l7), (8, .int l8), (9, .int l9)]) hx hb dX6_filled_149 hl (by decide) rfl (fun ls hl => ?_)
  refine lv_iload hx hb dX6_filled_151 (lv_at hl 8 rfl) ?_
  refine lv_if_eq (tgt := 179) hx hb dX6_filled_153 (by decide) (fun c67 => ?_) (fun c67 => ?_)
  · replace h := h.1 c67
    refine lv_iload hx hb dX6_filled_179 (lv_at hl 6 rfl) ?_
    refine lv_istore (lv' := [(7, .int l7), (6, .int s0), (0, .ref l0), (1, .int l1), (2, .int l2), (4, .int l4), (5, .int l5), (8, .int l8), (9, .int l9)]) hx hb dX6_filled_181 hl (by decide) rfl (fun ls hl => ?_)
    obtain ⟨x68, ex68⟩ : ∃ y : Int32, y = l8 + 1 := ⟨_, rfl⟩
    replace h := h x68 ex68
    refine lv_iinc (v := x68) (lv' := [(8, .int x68), (7, .int l7), (6, .int s0), (0, .ref l0), (1, .int l1), (2, .int l2), (4, .int l4), (5, .int l5), (9, .int l9)]) hx hb dX6_filled_183 hl (k := 7) rfl (by rw [ex68]; rfl) (by decide) rfl (fun ls hl => ?_)
    refine lv_goto (tgt := 78) hx hb dX6_filled_186 (by decide) ?_
    exact hK9 _ _ _ _ _ _ _ _ _ _ _ _ h hh hS (lv_sub hl [3, 4, 5, 6, 7, 2, 1, 0] rfl)
  · replace h := h.2 c67
    refine lv_aload_n hx hb dX6_filled_156 rfl (lv_at hl 1 rfl) ?_
    obtain ⟨g69, h⟩ := h
    obtain ⟨b70, eb70, h⟩ := h
    refine xr_getR (ci := 6) (C := RX6) (T := TX6) (N := 17) hx hb hL6 hown hK hh g69 (by decide) rfl 7 127 rfl rfl (by decide) (by decide) q2 (fun _ h9 => h9) eb70 dX6_filled_157 ?_
    refine lv_iload hx hb dX6_filled_160 (lv_at hl 7 rfl) ?_
    obtain ⟨g71, h⟩ := h
    obtain ⟨g72, h⟩ := h
    refine xr_iald hx hb hK hh g71 g72 dX6_filled_162 ?_
    refine lv_iload hx hb dX6_filled_163 (lv_at hl 5 rfl) ?_
    refine lv_icmp_le (tgt := 179) hx hb dX6_filled_165 (by decide) (fun c73 => ?_) (fun c73 => ?_)
    · replace h := h.1 c73
      refine lv_iload hx hb dX6_filled_179 (lv_at hl 6 rfl) ?_
      refine lv_istore (lv' := [(7, .int l7), (6, .int s0), (0, .ref l0), (1, .int l1), (2, .int l2), (4, .int l4), (5, .int l5), (8, .int l8), (9, .int l9)]) hx hb dX6_filled_181 hl (by decide) rfl (fun ls hl => ?_)
      obtain ⟨x74, ex74⟩ : ∃ y : Int32, y = l8 + 1 := ⟨_, rfl⟩
      replace h := h x74 ex74
      refine lv_iinc (v := x74) (lv' := [(8, .int x74), (7, .int l7), (6, .int s0), (0, .ref l0), (1, .int l1), (2, .int l2), (4, .int l4), (5, .int l5), (9, .int l9)]) hx hb dX6_filled_183 hl (k := 7) rfl (by rw [ex74]; rfl) (by decide) rfl (fun ls hl => ?_)
      refine lv_goto (tgt := 78) hx hb dX6_filled_186 (by decide) ?_
      exact hK9 _ _ _ _ _ _ _ _ _ _ _ _ h hh hS (lv_sub hl [3, 4, 5, 6, 7, 2, 1, 0] rfl)
    · replace h := h.2 c73
      refine lv_iload hx hb dX6_filled_168 (lv_at hl 6 rfl) ?_
      refine lv_iconst (v := -1) hx hb dX6_filled_170 (by decide) ?_
      refine lv_icmp_ne (tgt := 179) hx hb dX6_filled_171 (by decide) (fun c75 => ?_) (fun c75 => ?_)
      · replace h := h.1 c75
        refine lv_iload hx hb dX6_filled_179 (lv_at hl 6 rfl) ?_
        refine lv_istore (lv' := [(7, .int l7), (6, .int s0), (0, .ref l0), (1, .int l1), (2, .int l2), (4, .int l4), (5, .int l5), (8, .int l8), (9, .int l9)]) hx hb dX6_filled_181 hl (by decide) rfl (fun ls hl => ?_)
        obtain ⟨x76, ex76⟩ : ∃ y : Int32, y = l8 + 1 := ⟨_, rfl⟩
        replace h := h x76 ex76
        refine lv_iinc (v := x76) (lv' := [(8, .int x76), (7, .int l7), (6, .int s0), (0, .ref l0), (1, .int l1), (2, .int l2), (4, .int l4), (5, .int l5), (9, .int l9)]) hx hb dX6_filled_183 hl (k := 7) rfl (by rw [ex76]; rfl) (by decide) rfl (fun ls hl => ?_)
        refine lv_goto (tgt := 78) hx hb dX6_filled_186 (by decide) ?_
        exact hK9 _ _ _ _ _ _ _ _ _ _ _ _ h hh hS (lv_sub hl [3, 4, 5, 6, 7, 2, 1, 0] rfl)
      · replace h := h.2 c75
        refine lv_iload hx hb dX6_filled_174 (lv_at hl 7 rfl) ?_
        refine lv_goto (tgt := 181) hx hb dX6_filled_176 (by decide) ?_
        refine lv_istore (lv' := [(7, .int l8), (6, .int s0), (0, .ref l0), (1, .int l1), (2, .int l2), (4, .int l4), (5, .int l5), (8, .int l8), (9, .int l9)]) hx hb dX6_filled_181 hl (by decide) rfl (fun ls hl => ?_)
        obtain ⟨x77, ex77⟩ : ∃ y : Int32, y = l8 + 1 := ⟨_, rfl⟩
        replace h := h x77 ex77
        refine lv_iinc (v := x77) (lv' := [(8, .int x77), (7, .int l8), (6, .int s0), (0, .ref l0), (1, .int l1), (2, .int l2), (4, .int l4), (5, .int l5), (9, .int l9)]) hx hb dX6_filled_183 hl (k := 7) rfl (by rw [ex77]; rfl) (by decide) rfl (fun ls hl => ?_)
        refine lv_goto (tgt := 78) hx hb dX6_filled_186 (by decide) ?_
        exact hK9 _ _ _ _ _ _ _ _ _ _ _ _ h hh hS (lv_sub hl [3, 4, 5, 6, 7, 2, 1, 0] rfl)

set_option maxHeartbeats 4000000 in
set_option maxRecDepth 100000 in
theorem bk_X6_filled_147 {p : Program} {l : Launch} {e : Env} {s : State} {m : MethodId} {args : Array Value} {below : List Frame} {meth : Method} {c : Code} {G : GG} {base : Nat} (C0 : BC p s m args meth c G base RX6 cX6_filled 14 (some .int) wsX6_filled) {Q : Int32 → MM → Prop} {K : Nat → Int32 → Int32 → Int32 → Int32 → Int32 → Int32 → Int32 → MM → Prop} (hK9 : ∀ (l0 : Nat) (l1 : Int32) (l2 : Int32) (l4 : Int32) (l5 : Int32) (l6 : Int32) (l7 : Int32) (l8 : Int32) (m0 : MM) (H : Heap) (locs : List Loc) (ls : Array Slot), K l0 l1 l2 l4 l5 l6 l7 l8 m0 → hp G (xA base) m0 H → va_S (xA base) s.heap H locs → lv_has ls 14 [(0, .ref l0), (1, .int l1), (2, .int l2), (4, .int l4), (5, .int l5), (6, .int l6), (7, .int l7), (8, .int l8)] → W p l e ({ frames := 3, cells := 0, slots := 0, locals := 76 } : Room) s m args below meth c H locs 0 0 (MQ below (va_Qi Q (HB G base) (xA base)) args s 0 0 (xA base)) (F0 m 78 ls [])) : ∀ (l0 : Nat) (l1 : Int32) (l2 : Int32) (l4 : Int32) (l5 : Int32) (l6 : Int32) (l7 : Int32) (l8 : Int32) (l9 : Int32) (m0 : MM) (H : Heap) (locs : List Loc) (ls : Array Slot), wp_X6_filled_147 Q K l0 l1 l2 l4 l5 l6 l7 l8 l9 m0 → hp G (xA base) m0 H → va_S (xA base) s.heap H locs → lv_has ls 14 [(0, .ref l0), (1, .int l1), (2, .int l2), (4, .int l4), (5, .int l5), (6, .int l6), (7, .int l7), (8, .int l8), (9, .int l9)] → W p l e ({ frames := 3, cells := 0, slots := 0, locals := 76 } : Room) s m args below meth c H locs 0 0 (MQ below (va_Qi Q (HB G base) (xA base)) args s 0 0 (xA base)) (F0 m 147 ls []) := by
  obtain ⟨hx, hb, hr, hml, hown, hts, hlocks, hK, hbase, hX⟩ := id C0
  intro l0 l1 l2 l4 l5 l6 l7 l8 l9 m0 H locs ls h hh hS hl
  unfold wp_X6_filled_147 at h
  refine lv_iload hx hb dX6_filled_147 (lv_at hl 5 rfl) ?_
  exact bk_X6_filled_149 C0  (K := K) hK9 _ _ _ _ _ _ _ _ _ _ _ _ _ h hh hS (lv_sub hl [0, 1, 2, 3, 4, 6, 7, 8] rfl)

set_option maxHeartbeats 4000000 in
set_option maxRecDepth 100000 in
theorem bk_X6_filled_123 {p : Program} {l : Launch} {e : Env} {s : State} {m : MethodId} {args : Array Value} {below : List Frame} {meth : Method} {c : Code} {G : GG} {base : Nat} (C0 : BC p s m args meth c G base RX6 cX6_filled 14 (some .int) wsX6_filled) {Q : Int32 → MM → Prop} {K : Nat → Int32 → Int32 → Int32 → Int32 → Int32 → Int32 → Int32 → MM → Prop} (hK9 : ∀ (l0 : Nat) (l1 : Int32) (l2 : Int32) (l4 : Int32) (l5 : Int32) (l6 : Int32) (l7 : Int32) (l8 : Int32) (m0 : MM) (H : Heap) (locs : List Loc) (ls : Array Slot), K l0 l1 l2 l4 l5 l6 l7 l8 m0 → hp G (xA base) m0 H → va_S (xA base) s.heap H locs → lv_has ls 14 [(0, .ref l0), (1, .int l1), (2, .int l2), (4, .int l4), (5, .int l5), (6, .int l6), (7, .int l7), (8, .int l8)] → W p l e ({ frames := 3, cells := 0, slots := 0, locals := 76 } : Room) s m args below meth c H locs 0 0 (MQ below (va_Qi Q (HB G base) (xA base)) args s 0 0 (xA base)) (F0 m 78 ls [])) : ∀ (l0 : Nat) (l1 : Int32) (l2 : Int32) (l4 : Int32) (l5 : Int32) (l6 : Int32) (l7 : Int32) (l8 : Int32) (s0 : Int32) (m0 : MM) (H : Heap) (locs : List Loc) (ls : Array Slot), wp_X6_filled_123 Q K l0 l1 l2 l4 l5 l6 l7 l8 s0 m0 → hp G (xA base) m0 H → va_S (xA base) s.heap H locs → lv_has ls 14 [(0, .ref l0), (1, .int l1), (2, .int l2), (4, .int l4), (5, .int l5), (6, .int l6), (7, .int l7), (8, .int l8)] → W p l e ({ frames := 3, cells := 0, slots := 0, locals := 76 } : Room) s m args below meth c H locs 0 0 (MQ below (va_Qi Q (HB G base) (xA base)) args s 0 0 (xA base)) (F0 m 123 ls [.int s0]) := by
  obtain ⟨hx, hb, hr, hml, hown, hts, hlocks, hK, hbase, hX⟩ := id C0
  intro l0 l1 l2 l4 l5 l6 l7 l8 s0 m0 H locs ls h hh hS hl
  unfold wp_X6_filled_123 at h
  have hL6 : ∀ w ∈ u_ws RX6 TX6 17, w.before _ s = true := fun w h9 => hts w (List.mem_cons_of_mem _ (List.mem_append_right _ (h9)))
  have q2 : (Cond.fieldLink RX6 22 "RollupStoreModel" "time" "[I").before _ s = true := hts _ (List.mem_cons_of_mem _ (List.mem_append_left _ (List.mem_append_left _ (List.mem_of_getElem? (i := 3) rfl))))
  refine lv_istore (lv' := [(9, .int s0), (0, .ref l0), (1, .int l1), (2, .int l2), (4, .int l4), (5, .int l5), (6, .int l6), (7, .int l7), (8, .int l8)]) hx hb dX6_filled_123 hl (by decide) rfl (fun ls hl => ?_)
  refine lv_iload hx hb dX6_filled_125 (lv_at hl 0 rfl) ?_
  refine lv_if_eq (tgt := 147) hx hb dX6_filled_127 (by decide) (fun c66 => ?_) (fun c66 => ?_)
  · replace h := h.1 c66
    exact bk_X6_filled_147 C0  (K := K) hK9 _ _ _ _ _ _ _ _ _ _ _ _ _ h hh hS (lv_sub hl [1, 2, 3, 4, 5, 6, 7, 8, 0] rfl)
  · replace h := h.2 c66
    refine lv_aload_n hx hb dX6_filled_130 rfl (lv_at hl 1 rfl) ?_
    obtain ⟨g78, h⟩ := h
    obtain ⟨b79, eb79, h⟩ := h
    refine xr_getR (ci := 6) (C := RX6) (T := TX6) (N := 17) hx hb hL6 hown hK hh g78 (by decide) rfl 7 127 rfl rfl (by decide) (by decide) q2 (fun _ h9 => h9) eb79 dX6_filled_131 ?_
    refine lv_iload hx hb dX6_filled_134 (lv_at hl 8 rfl) ?_
    obtain ⟨g80, h⟩ := h
    obtain ⟨g81, h⟩ := h
    refine xr_iald hx hb hK hh g80 g81 dX6_filled_136 ?_
    refine lv_iload hx hb dX6_filled_137 (lv_at hl 5 rfl) ?_
    refine lv_icmp_ge (tgt := 147) hx hb dX6_filled_139 (by decide) (fun c82 => ?_) (fun c82 => ?_)
    · replace h := h.1 c82
      exact bk_X6_filled_147 C0  (K := K) hK9 _ _ _ _ _ _ _ _ _ _ _ _ _ h hh hS (lv_sub hl [1, 2, 3, 4, 5, 6, 7, 8, 0] rfl)
    · replace h := h.2 c82
      refine lv_iload hx hb dX6_filled_142 (lv_at hl 8 rfl) ?_
      refine lv_goto (tgt := 149) hx hb dX6_filled_144 (by decide) ?_
      exact bk_X6_filled_149 C0  (K := K) hK9 _ _ _ _ _ _ _ _ _ _ _ _ _ h hh hS (lv_sub hl [1, 2, 3, 4, 5, 7, 8, 0] rfl)

set_option maxHeartbeats 4000000 in
set_option maxRecDepth 100000 in
theorem bk_X6_filled_122 {p : Program} {l : Launch} {e : Env} {s : State} {m : MethodId} {args : Array Value} {below : List Frame} {meth : Method} {c : Code} {G : GG} {base : Nat} (C0 : BC p s m args meth c G base RX6 cX6_filled 14 (some .int) wsX6_filled) {Q : Int32 → MM → Prop} {K : Nat → Int32 → Int32 → Int32 → Int32 → Int32 → Int32 → Int32 → MM → Prop} (hK9 : ∀ (l0 : Nat) (l1 : Int32) (l2 : Int32) (l4 : Int32) (l5 : Int32) (l6 : Int32) (l7 : Int32) (l8 : Int32) (m0 : MM) (H : Heap) (locs : List Loc) (ls : Array Slot), K l0 l1 l2 l4 l5 l6 l7 l8 m0 → hp G (xA base) m0 H → va_S (xA base) s.heap H locs → lv_has ls 14 [(0, .ref l0), (1, .int l1), (2, .int l2), (4, .int l4), (5, .int l5), (6, .int l6), (7, .int l7), (8, .int l8)] → W p l e ({ frames := 3, cells := 0, slots := 0, locals := 76 } : Room) s m args below meth c H locs 0 0 (MQ below (va_Qi Q (HB G base) (xA base)) args s 0 0 (xA base)) (F0 m 78 ls [])) : ∀ (l0 : Nat) (l1 : Int32) (l2 : Int32) (l4 : Int32) (l5 : Int32) (l6 : Int32) (l7 : Int32) (l8 : Int32) (m0 : MM) (H : Heap) (locs : List Loc) (ls : Array Slot), wp_X6_filled_122 Q K l0 l1 l2 l4 l5 l6 l7 l8 m0 → hp G (xA base) m0 H → va_S (xA base) s.heap H locs → lv_has ls 14 [(0, .ref l0), (1, .int l1), (2, .int l2), (4, .int l4), (5, .int l5), (6, .int l6), (7, .int l7), (8, .int l8)] → W p l e ({ frames := 3, cells := 0, slots := 0, locals := 76 } : Room) s m args below meth c H locs 0 0 (MQ below (va_Qi Q (HB G base) (xA base)) args s 0 0 (xA base)) (F0 m 122 ls []) := by
  obtain ⟨hx, hb, hr, hml, hown, hts, hlocks, hK, hbase, hX⟩ := id C0
  intro l0 l1 l2 l4 l5 l6 l7 l8 m0 H locs ls h hh hS hl
  unfold wp_X6_filled_122 at h
  refine lv_iconst (v := 0) hx hb dX6_filled_122 (by decide) ?_
  exact bk_X6_filled_123 C0  (K := K) hK9 _ _ _ _ _ _ _ _ _ _ _ _ _ h hh hS (lv_sub hl [0, 1, 2, 3, 4, 5, 6, 7] rfl)

set_option maxHeartbeats 4000000 in
set_option maxRecDepth 100000 in
theorem bk_X6_filled_78 {p : Program} {l : Launch} {e : Env} {s : State} {m : MethodId} {args : Array Value} {below : List Frame} {meth : Method} {c : Code} {G : GG} {base : Nat} (C0 : BC p s m args meth c G base RX6 cX6_filled 14 (some .int) wsX6_filled) {Q : Int32 → MM → Prop} : ∀ (n : Nat) (l0 : Nat) (l1 : Int32) (l2 : Int32) (l4 : Int32) (l5 : Int32) (l6 : Int32) (l7 : Int32) (l8 : Int32) (m0 : MM) (H : Heap) (locs : List Loc) (ls : Array Slot), wp_X6_filled_78 Q n l0 l1 l2 l4 l5 l6 l7 l8 m0 → hp G (xA base) m0 H → va_S (xA base) s.heap H locs → lv_has ls 14 [(0, .ref l0), (1, .int l1), (2, .int l2), (4, .int l4), (5, .int l5), (6, .int l6), (7, .int l7), (8, .int l8)] → W p l e ({ frames := 3, cells := 0, slots := 0, locals := 76 } : Room) s m args below meth c H locs 0 0 (MQ below (va_Qi Q (HB G base) (xA base)) args s 0 0 (xA base)) (F0 m 78 ls []) := by
  obtain ⟨hx, hb, hr, hml, hown, hts, hlocks, hK, hbase, hX⟩ := id C0
  intro n
  induction n with
  | zero =>
    intro l0 l1 l2 l4 l5 l6 l7 l8 m0 H locs ls h
    unfold wp_X6_filled_78 at h
    exact h.elim
  | succ n ih =>
    intro l0 l1 l2 l4 l5 l6 l7 l8 m0 H locs ls h hh hS hl
    unfold wp_X6_filled_78 at h
    have hL6 : ∀ w ∈ u_ws RX6 TX6 17, w.before _ s = true := fun w h9 => hts w (List.mem_cons_of_mem _ (List.mem_append_right _ (h9)))
    have q2 : (Cond.fieldLink RX6 46 "RollupStoreModel" "all" "I").before _ s = true := hts _ (List.mem_cons_of_mem _ (List.mem_append_left _ (List.mem_append_left _ (List.mem_of_getElem? (i := 1) rfl))))
    have q3 : (Cond.fieldLink RX6 19 "RollupStoreModel" "who" "[I").before _ s = true := hts _ (List.mem_cons_of_mem _ (List.mem_append_left _ (List.mem_append_left _ (List.mem_of_getElem? (i := 2) rfl))))
    have q4 : (Cond.fieldLink RX6 22 "RollupStoreModel" "time" "[I").before _ s = true := hts _ (List.mem_cons_of_mem _ (List.mem_append_left _ (List.mem_append_left _ (List.mem_of_getElem? (i := 3) rfl))))
    refine lv_iload hx hb dX6_filled_78 (lv_at hl 7 rfl) ?_
    refine lv_aload_n hx hb dX6_filled_80 rfl (lv_at hl 0 rfl) ?_
    obtain ⟨g21, h⟩ := h
    refine xr_getI (ci := 6) (C := RX6) (T := TX6) (N := 17) hx hb hL6 hown hK hh g21 (by decide) rfl 2 122 rfl rfl (by decide) (by decide) q2 (fun _ h9 => h9) dX6_filled_81 ?_
    refine lv_icmp_ge (tgt := 189) hx hb dX6_filled_84 (by decide) (fun c22 => ?_) (fun c22 => ?_)
    · replace h := h.1 c22
      refine lv_aload_n hx hb dX6_filled_189 rfl (lv_at hl 0 rfl) ?_
      refine lv_iload hx hb dX6_filled_190 (lv_at hl 3 rfl) ?_
      refine lv_if_eq (tgt := 201) hx hb dX6_filled_192 (by decide) (fun c23 => ?_) (fun c23 => ?_)
      · replace h := h.1 c23
        exact bk_X6_filled_201 C0  _ _ _ _ _ _ _ _ _ _ _ _ h hh hS (lv_sub hl [0, 1, 2, 3, 4, 5, 6] rfl)
      · replace h := h.2 c23
        refine lv_iload hx hb dX6_filled_195 (lv_at hl 5 rfl) ?_
        refine lv_iconst (v := -1) hx hb dX6_filled_197 (by decide) ?_
        refine lv_icmp_eq (tgt := 213) hx hb dX6_filled_198 (by decide) (fun c60 => ?_) (fun c60 => ?_)
        · replace h := h.1 c60
          exact bk_X6_filled_213 C0  _ _ _ _ _ _ _ _ _ _ _ _ h hh hS (lv_sub hl [0, 1, 2, 3, 4, 5, 6] rfl)
        · replace h := h.2 c60
          exact bk_X6_filled_201 C0  _ _ _ _ _ _ _ _ _ _ _ _ h hh hS (lv_sub hl [0, 1, 2, 3, 4, 5, 6] rfl)
    · replace h := h.2 c22
      refine lv_aload_n hx hb dX6_filled_87 rfl (lv_at hl 0 rfl) ?_
      obtain ⟨g61, h⟩ := h
      obtain ⟨b62, eb62, h⟩ := h
      refine xr_getR (ci := 6) (C := RX6) (T := TX6) (N := 17) hx hb hL6 hown hK hh g61 (by decide) rfl 6 126 rfl rfl (by decide) (by decide) q3 (fun _ h9 => h9) eb62 dX6_filled_88 ?_
      refine lv_iload hx hb dX6_filled_91 (lv_at hl 7 rfl) ?_
      obtain ⟨g63, h⟩ := h
      obtain ⟨g64, h⟩ := h
      refine xr_iald hx hb hK hh g63 g64 dX6_filled_93 ?_
      refine lv_iload_n hx hb dX6_filled_94 rfl (lv_at hl 1 rfl) ?_
      refine lv_icmp_ne (tgt := 122) hx hb dX6_filled_95 (by decide) (fun c65 => ?_) (fun c65 => ?_)
      · replace h := h.1 c65
        exact bk_X6_filled_122 C0  (K := wp_X6_filled_78 Q n) ih _ _ _ _ _ _ _ _ _ _ _ _ h hh hS (lv_sub hl [0, 1, 2, 3, 4, 5, 6, 7] rfl)
      · replace h := h.2 c65
        refine lv_aload_n hx hb dX6_filled_98 rfl (lv_at hl 0 rfl) ?_
        refine lv_iload_n hx hb dX6_filled_99 rfl (lv_at hl 2 rfl) ?_
        refine lv_iload_n hx hb dX6_filled_100 rfl (lv_at hl 2 rfl) ?_
        refine lv_aload_n hx hb dX6_filled_101 rfl (lv_at hl 0 rfl) ?_
        obtain ⟨g83, h⟩ := h
        obtain ⟨b84, eb84, h⟩ := h
        refine xr_getR (ci := 6) (C := RX6) (T := TX6) (N := 17) hx hb hL6 hown hK hh g83 (by decide) rfl 7 127 rfl rfl (by decide) (by decide) q4 (fun _ h9 => h9) eb84 dX6_filled_102 ?_
        refine lv_iload hx hb dX6_filled_105 (lv_at hl 7 rfl) ?_
        obtain ⟨g85, h⟩ := h
        obtain ⟨g86, h⟩ := h
        refine xr_iald hx hb hK hh g85 g86 dX6_filled_107 ?_
        refine xc_i (va_runS (As := [.int l2, .int (mAI m0 b84 l8.toNatClampNeg)]) (rest := [.int l2, .ref l0]) ⟨hx, hb, hml, hown, hts⟩ (mt_X6_begin l G base h) (va_cwS 2 hts gX6_filled_X6_begin rfl rfl rfl (by decide +kernel) ⟨Nat.le_of_ble_eq_true rfl, Nat.le_of_ble_eq_true rfl⟩) (xp_S hbase hh hK hX hS) rfl rfl hl.1 rfl (lv_room (Nat.le_of_ble_eq_true rfl)) dX6_filled_108 ⟨Nat.le_of_ble_eq_true rfl, Nat.le_of_ble_eq_true rfl⟩) hS (fun r87 m88 H locs h hh hS => ?_)
        refine lv_i2l hx hb dX6_filled_111 rfl ?_
        obtain ⟨g89, h⟩ := h
        refine xc_i (va_runV (As := [.int l2, .long r87.toInt64]) (rest := []) ⟨hx, hb, hml, hown, hts⟩ (mt_X6_isGone l G base h) (cwV 2 hts gX6_filled_X6_isGone rfl rfl rfl (by decide +kernel) ⟨Nat.le_of_ble_eq_true rfl, Nat.le_of_ble_eq_true rfl⟩) (xp_V hbase hh hK hX hS (ci := 6) g89 (by decide) rfl) rfl rfl hl.1 rfl (lv_room (Nat.le_of_ble_eq_true rfl)) dX6_filled_112 ⟨Nat.le_of_ble_eq_true rfl, Nat.le_of_ble_eq_true rfl⟩) hS (fun r90 m91 H locs h hh hS => ?_)
        refine lv_if_ne (tgt := 122) hx hb dX6_filled_115 (by decide) (fun c92 => ?_) (fun c92 => ?_)
        · replace h := h.1 c92
          exact bk_X6_filled_122 C0  (K := wp_X6_filled_78 Q n) ih _ _ _ _ _ _ _ _ _ _ _ _ h hh hS (lv_sub hl [0, 1, 2, 3, 4, 5, 6, 7] rfl)
        · replace h := h.2 c92
          refine lv_iconst (v := 1) hx hb dX6_filled_118 (by decide) ?_
          refine lv_goto (tgt := 123) hx hb dX6_filled_119 (by decide) ?_
          exact bk_X6_filled_123 C0  (K := wp_X6_filled_78 Q n) ih _ _ _ _ _ _ _ _ _ _ _ _ _ h hh hS (lv_sub hl [0, 1, 2, 3, 4, 5, 6, 7] rfl)

set_option maxHeartbeats 4000000 in
set_option maxRecDepth 100000 in
theorem bk_X6_filled_39 {p : Program} {l : Launch} {e : Env} {s : State} {m : MethodId} {args : Array Value} {below : List Frame} {meth : Method} {c : Code} {G : GG} {base : Nat} (C0 : BC p s m args meth c G base RX6 cX6_filled 14 (some .int) wsX6_filled) {Q : Int32 → MM → Prop} : ∀ (l0 : Nat) (l1 : Int32) (l2 : Int32) (l3 : Int32) (l4 : Int32) (s0 : Int32) (s1 : Nat) (m0 : MM) (H : Heap) (locs : List Loc) (ls : Array Slot), wp_X6_filled_39 Q l0 l1 l2 l3 l4 s0 s1 m0 → hp G (xA base) m0 H → va_S (xA base) s.heap H locs → lv_has ls 14 [(0, .ref l0), (1, .int l1), (2, .int l2), (3, .int l3), (4, .int l4)] → W p l e ({ frames := 3, cells := 0, slots := 0, locals := 76 } : Room) s m args below meth c H locs 0 0 (MQ below (va_Qi Q (HB G base) (xA base)) args s 0 0 (xA base)) (F0 m 39 ls [.int s0, .ref s1]) := by
  obtain ⟨hx, hb, hr, hml, hown, hts, hlocks, hK, hbase, hX⟩ := id C0
  intro l0 l1 l2 l3 l4 s0 s1 m0 H locs ls h hh hS hl
  unfold wp_X6_filled_39 at h
  have hL6 : ∀ w ∈ u_ws RX6 TX6 17, w.before _ s = true := fun w h9 => hts w (List.mem_cons_of_mem _ (List.mem_append_right _ (h9)))
  have q2 : (Cond.fieldLink RX6 130 "RollupStoreModel" "last" "I").before _ s = true := hts _ (List.mem_cons_of_mem _ (List.mem_append_left _ (List.mem_append_left _ (List.mem_of_getElem? (i := 0) rfl))))
  obtain ⟨g8, h⟩ := h
  refine xc_i (va_runV (As := [.int s0]) (rest := []) ⟨hx, hb, hml, hown, hts⟩ (mt_X6_can l G base h) (cwV 1 hts gX6_filled_X6_can rfl rfl rfl (by decide +kernel) ⟨Nat.le_of_ble_eq_true rfl, Nat.le_of_ble_eq_true rfl⟩) (xp_V hbase hh hK hX hS (ci := 6) g8 (by decide) rfl) rfl rfl hl.1 rfl (lv_room (Nat.le_of_ble_eq_true rfl)) dX6_filled_39 ⟨Nat.le_of_ble_eq_true rfl, Nat.le_of_ble_eq_true rfl⟩) hS (fun r9 m10 H locs h hh hS => ?_)
  refine lv_if_ne (tgt := 47) hx hb dX6_filled_42 (by decide) (fun c11 => ?_) (fun c11 => ?_)
  · replace h := h.1 c11
    refine lv_aload_n hx hb dX6_filled_47 rfl (lv_at hl 0 rfl) ?_
    refine lv_iload_n hx hb dX6_filled_48 rfl (lv_at hl 1 rfl) ?_
    refine lv_iload_n hx hb dX6_filled_49 rfl (lv_at hl 2 rfl) ?_
    refine lv_iload_n hx hb dX6_filled_50 rfl (lv_at hl 3 rfl) ?_
    obtain ⟨g12, h⟩ := h
    refine xc_i (va_runV (As := [.int l1, .int l2, .int l3]) (rest := []) ⟨hx, hb, hml, hown, hts⟩ (mt_X6_looks l G base h) (cwV 3 hts gX6_filled_X6_looks rfl rfl rfl (by decide +kernel) ⟨Nat.le_of_ble_eq_true rfl, Nat.le_of_ble_eq_true rfl⟩) (xp_V hbase hh hK hX hS (ci := 6) g12 (by decide) rfl) rfl rfl hl.1 rfl (lv_room (Nat.le_of_ble_eq_true rfl)) dX6_filled_51 ⟨Nat.le_of_ble_eq_true rfl, Nat.le_of_ble_eq_true rfl⟩) hS (fun r13 m14 H locs h hh hS => ?_)
    refine lv_if_eq (tgt := 62) hx hb dX6_filled_54 (by decide) (fun c15 => ?_) (fun c15 => ?_)
    · replace h := h.1 c15
      refine lv_iload_n hx hb dX6_filled_62 rfl (lv_at hl 2 rfl) ?_
      refine lv_iload_n hx hb dX6_filled_63 rfl (lv_at hl 3 rfl) ?_
      refine xc_i (va_runS (As := [.int l2, .int l3]) (rest := []) ⟨hx, hb, hml, hown, hts⟩ (mt_X6_begin l G base h) (va_cwS 2 hts gX6_filled_X6_begin rfl rfl rfl (by decide +kernel) ⟨Nat.le_of_ble_eq_true rfl, Nat.le_of_ble_eq_true rfl⟩) (xp_S hbase hh hK hX hS) rfl rfl hl.1 rfl (lv_room (Nat.le_of_ble_eq_true rfl)) dX6_filled_64 ⟨Nat.le_of_ble_eq_true rfl, Nat.le_of_ble_eq_true rfl⟩) hS (fun r16 m17 H locs h hh hS => ?_)
      refine lv_istore (lv' := [(5, .int r16), (0, .ref l0), (1, .int l1), (2, .int l2), (3, .int l3), (4, .int l4)]) hx hb dX6_filled_67 hl (by decide) rfl (fun ls hl => ?_)
      refine lv_iconst (v := -1) hx hb dX6_filled_69 (by decide) ?_
      refine lv_topi (fun x18 ex18 => ?_)
      replace h := h x18 ex18
      refine lv_istore (lv' := [(6, .int x18), (5, .int r16), (0, .ref l0), (1, .int l1), (2, .int l2), (3, .int l3), (4, .int l4)]) hx hb dX6_filled_70 hl (by decide) rfl (fun ls hl => ?_)
      refine lv_iconst (v := -1) hx hb dX6_filled_72 (by decide) ?_
      refine lv_topi (fun x19 ex19 => ?_)
      replace h := h x19 ex19
      refine lv_istore (lv' := [(7, .int x19), (6, .int x18), (5, .int r16), (0, .ref l0), (1, .int l1), (2, .int l2), (3, .int l3), (4, .int l4)]) hx hb dX6_filled_73 hl (by decide) rfl (fun ls hl => ?_)
      refine lv_iconst (v := 0) hx hb dX6_filled_75 (by decide) ?_
      refine lv_topi (fun x20 ex20 => ?_)
      replace h := h x20 ex20
      refine lv_istore (lv' := [(8, .int x20), (7, .int x19), (6, .int x18), (5, .int r16), (0, .ref l0), (1, .int l1), (2, .int l2), (3, .int l3), (4, .int l4)]) hx hb dX6_filled_76 hl (by decide) rfl (fun ls hl => ?_)
      obtain ⟨n9, h⟩ := h
      exact bk_X6_filled_78 C0  n9 _ _ _ _ _ _ _ _ _ _ _ _ h hh hS (lv_sub hl [4, 5, 6, 8, 3, 2, 1, 0] rfl)
    · replace h := h.2 c15
      refine lv_aload_n hx hb dX6_filled_57 rfl (lv_at hl 0 rfl) ?_
      obtain ⟨g93, h⟩ := h
      refine xr_getI (ci := 6) (C := RX6) (T := TX6) (N := 17) hx hb hL6 hown hK hh g93 (by decide) rfl 14 134 rfl rfl (by decide) (by decide) q2 (fun _ h9 => h9) dX6_filled_58 ?_
      exact (xe_i hx hb hr hlocks hbase hh hK hX hS h (Nat.le_of_ble_eq_true rfl) (Nat.le_of_ble_eq_true rfl) dX6_filled_61)
  · replace h := h.2 c11
    refine lv_iconst (v := 0) hx hb dX6_filled_45 (by decide) ?_
    exact (xe_i hx hb hr hlocks hbase hh hK hX hS h (Nat.le_of_ble_eq_true rfl) (Nat.le_of_ble_eq_true rfl) dX6_filled_46)

set_option maxHeartbeats 4000000 in
set_option maxRecDepth 100000 in
theorem bk_X6_filled_34 {p : Program} {l : Launch} {e : Env} {s : State} {m : MethodId} {args : Array Value} {below : List Frame} {meth : Method} {c : Code} {G : GG} {base : Nat} (C0 : BC p s m args meth c G base RX6 cX6_filled 14 (some .int) wsX6_filled) {Q : Int32 → MM → Prop} : ∀ (l0 : Nat) (l1 : Int32) (l2 : Int32) (l3 : Int32) (l4 : Int32) (s0 : Nat) (m0 : MM) (H : Heap) (locs : List Loc) (ls : Array Slot), wp_X6_filled_34 Q l0 l1 l2 l3 l4 s0 m0 → hp G (xA base) m0 H → va_S (xA base) s.heap H locs → lv_has ls 14 [(0, .ref l0), (1, .int l1), (2, .int l2), (3, .int l3), (4, .int l4)] → W p l e ({ frames := 3, cells := 0, slots := 0, locals := 76 } : Room) s m args below meth c H locs 0 0 (MQ below (va_Qi Q (HB G base) (xA base)) args s 0 0 (xA base)) (F0 m 34 ls [.ref s0]) := by
  obtain ⟨hx, hb, hr, hml, hown, hts, hlocks, hK, hbase, hX⟩ := id C0
  intro l0 l1 l2 l3 l4 s0 m0 H locs ls h hh hS hl
  unfold wp_X6_filled_34 at h
  refine lv_iconst (v := 2) hx hb dX6_filled_34 (by decide) ?_
  refine lv_goto (tgt := 39) hx hb dX6_filled_35 (by decide) ?_
  exact bk_X6_filled_39 C0  _ _ _ _ _ _ _ _ _ _ _ h hh hS (lv_sub hl [0, 1, 2, 3, 4] rfl)

set_option maxHeartbeats 4000000 in
set_option maxRecDepth 100000 in
theorem mt_X6_filled (l : Launch) (G : GG) (base : Nat) {a0 : Nat} {p1 : Int32} {p2 : Int32} {p3 : Int32} {p4 : Int32} {m0 : MM} {Q : Int32 → MM → Prop} (h : wp_X6_filled a0 p1 p2 p3 p4 m0 Q) : Met l yX6_filled wsX6_filled ({ frames := 3, cells := 0, slots := 0, locals := 76 }) (va_Pc [.ref a0, .int p1, .int p2, .int p3, .int p4] (SP G base m0)) (va_Qi Q (HB G base) (xA base)) 0 0 (xA base) := by
  refine Met.ofW (cc := cX6_filled) (maxL := 14) (ret := (some .int)) (by decide) rfl ?_
  intro p e s m args below meth c s₁ B hml hv
  obtain ⟨rfl, hbase, hh, hK, hX⟩ := hv
  have C0 : BC p s m _ meth c G base RX6 cX6_filled 14 (some .int) wsX6_filled := ⟨B.exec, B.bytes, B.returns, hml, findClass_of_methodNamed B.named, atoms_spec (ws := wsX6_filled) B.pre, B.notSynchronized, hK, hbase, hX⟩
  obtain ⟨hx, hb, hr, -, hown, hts, hlocks, -, -, -⟩ := id C0
  have hS : va_S (xA base) s.heap s.heap [] := va_S.rf
  have hl := lv_entry ([.ref a0, .int p1, .int p2, .int p3, .int p4]) (n := 14) (Nat.le_of_ble_eq_true rfl)
  rw [lg_entry_eq]
  generalize (lg_sl ([.ref a0, .int p1, .int p2, .int p3, .int p4]) ++ List.replicate (14 - (lg_sl ([.ref a0, .int p1, .int p2, .int p3, .int p4])).length) Slot.unset).toArray = ls at hl ⊢
  have hl : lv_has ls 14 [(0, .ref a0), (1, .int p1), (2, .int p2), (3, .int p3), (4, .int p4)] := hl
  unfold wp_X6_filled at h
  refine lv_aload_n hx hb dX6_filled_0 rfl (lv_at hl 0 rfl) ?_
  refine lv_aload_n hx hb dX6_filled_1 rfl (lv_at hl 0 rfl) ?_
  refine lv_iload_n hx hb dX6_filled_2 rfl (lv_at hl 1 rfl) ?_
  obtain ⟨g1, h⟩ := h
  refine xc_i (va_runV (As := [.int p1]) (rest := [.ref a0]) ⟨hx, hb, hml, hown, hts⟩ (mt_X6_isSeries l G base h) (cwV 1 hts gX6_filled_X6_isSeries rfl rfl rfl (by decide +kernel) ⟨Nat.le_of_ble_eq_true rfl, Nat.le_of_ble_eq_true rfl⟩) (xp_V hbase hh hK hX hS (ci := 6) g1 (by decide) rfl) rfl rfl hl.1 rfl (lv_room (Nat.le_of_ble_eq_true rfl)) dX6_filled_3 ⟨Nat.le_of_ble_eq_true rfl, Nat.le_of_ble_eq_true rfl⟩) hS (fun r2 m3 H locs h hh hS => ?_)
  refine lv_if_ne (tgt := 13) hx hb dX6_filled_6 (by decide) (fun c4 => ?_) (fun c4 => ?_)
  · replace h := h.1 c4
    refine lv_iload_n hx hb dX6_filled_13 rfl (lv_at hl 2 rfl) ?_
    refine xc_i (va_runS (As := [.int p2]) (rest := [.ref a0]) ⟨hx, hb, hml, hown, hts⟩ (mt_X6_isRolled l G base h) (va_cwS 1 hts gX6_filled_X6_isRolled rfl rfl rfl (by decide +kernel) ⟨Nat.le_of_ble_eq_true rfl, Nat.le_of_ble_eq_true rfl⟩) (xp_S hbase hh hK hX hS) rfl rfl hl.1 rfl (lv_room (Nat.le_of_ble_eq_true rfl)) dX6_filled_14 ⟨Nat.le_of_ble_eq_true rfl, Nat.le_of_ble_eq_true rfl⟩) hS (fun r5 m6 H locs h hh hS => ?_)
    refine lv_if_eq (tgt := 34) hx hb dX6_filled_17 (by decide) (fun c7 => ?_) (fun c7 => ?_)
    · replace h := h.1 c7
      exact bk_X6_filled_34 C0  _ _ _ _ _ _ _ _ _ _ h hh hS (lv_sub hl [0, 1, 2, 3, 4] rfl)
    · replace h := h.2 c7
      refine lv_iload hx hb dX6_filled_20 (lv_at hl 4 rfl) ?_
      refine lv_iconst (v := 0) hx hb dX6_filled_22 (by decide) ?_
      refine lv_iconst (v := 2) hx hb dX6_filled_23 (by decide) ?_
      refine xc_i (va_runS (As := [.int p4, .int (0 : Int32), .int (2 : Int32)]) (rest := [.ref a0]) ⟨hx, hb, hml, hown, hts⟩ (mt_X6_isIn l G base h) (va_cwS 3 hts gX6_filled_X6_isIn rfl rfl rfl (by decide +kernel) ⟨Nat.le_of_ble_eq_true rfl, Nat.le_of_ble_eq_true rfl⟩) (xp_S hbase hh hK hX hS) rfl rfl hl.1 rfl (lv_room (Nat.le_of_ble_eq_true rfl)) dX6_filled_24 ⟨Nat.le_of_ble_eq_true rfl, Nat.le_of_ble_eq_true rfl⟩) hS (fun r94 m95 H locs h hh hS => ?_)
      refine lv_if_eq (tgt := 34) hx hb dX6_filled_27 (by decide) (fun c96 => ?_) (fun c96 => ?_)
      · replace h := h.1 c96
        exact bk_X6_filled_34 C0  _ _ _ _ _ _ _ _ _ _ h hh hS (lv_sub hl [0, 1, 2, 3, 4] rfl)
      · replace h := h.2 c96
        refine lv_iload_n hx hb dX6_filled_30 rfl (lv_at hl 3 rfl) ?_
        refine lv_if_ge (tgt := 38) hx hb dX6_filled_31 (by decide) (fun c97 => ?_) (fun c97 => ?_)
        · replace h := h.1 c97
          refine lv_iconst (v := 0) hx hb dX6_filled_38 (by decide) ?_
          exact bk_X6_filled_39 C0  _ _ _ _ _ _ _ _ _ _ _ h hh hS (lv_sub hl [0, 1, 2, 3, 4] rfl)
        · replace h := h.2 c97
          exact bk_X6_filled_34 C0  _ _ _ _ _ _ _ _ _ _ h hh hS (lv_sub hl [0, 1, 2, 3, 4] rfl)
  · replace h := h.2 c4
    refine lv_iconst (v := 1) hx hb dX6_filled_9 (by decide) ?_
    refine lv_goto (tgt := 39) hx hb dX6_filled_10 (by decide) ?_
    exact bk_X6_filled_39 C0  _ _ _ _ _ _ _ _ _ _ _ h hh hS (lv_sub hl [0, 1, 2, 3, 4] rfl)

set_option maxHeartbeats 4000000 in
set_option maxRecDepth 100000 in
theorem mt_X6_isWindow (l : Launch) (G : GG) (base : Nat) {p1 : Int32} {p2 : Int32} {p3 : Int32} {m0 : MM} {Q : Int32 → MM → Prop} (h : wp_X6_isWindow p1 p2 p3 m0 Q) : Met l yX6_isWindow wsX6_isWindow ({ frames := 0, cells := 0, slots := 0, locals := 8 }) (va_Pc [.int p1, .int p2, .int p3] (SP G base m0)) (va_Qi Q (HB G base) (xA base)) 0 0 (xA base) := by
  refine Met.ofW (cc := cX6_isWindow) (maxL := 3) (ret := (some .boolean)) (by decide) rfl ?_
  intro p e s m args below meth c s₁ B hml hv
  obtain ⟨rfl, hbase, hh, hK, hX⟩ := hv
  have C0 : BC p s m _ meth c G base RX6 cX6_isWindow 3 (some .boolean) wsX6_isWindow := ⟨B.exec, B.bytes, B.returns, hml, findClass_of_methodNamed B.named, atoms_spec (ws := wsX6_isWindow) B.pre, B.notSynchronized, hK, hbase, hX⟩
  obtain ⟨hx, hb, hr, -, hown, hts, hlocks, -, -, -⟩ := id C0
  have hS : va_S (xA base) s.heap s.heap [] := va_S.rf
  have hl := lv_entry ([.int p1, .int p2, .int p3]) (n := 3) (Nat.le_of_ble_eq_true rfl)
  rw [lg_entry_eq]
  generalize (lg_sl ([.int p1, .int p2, .int p3]) ++ List.replicate (3 - (lg_sl ([.int p1, .int p2, .int p3])).length) Slot.unset).toArray = ls at hl ⊢
  have hl : lv_has ls 3 [(0, .int p1), (1, .int p2), (2, .int p3)] := hl
  unfold wp_X6_isWindow at h
  refine lv_iload_n hx hb dX6_isWindow_0 rfl (lv_at hl 0 rfl) ?_
  refine lv_if_lt (tgt := 25) hx hb dX6_isWindow_1 (by decide) (fun c1 => ?_) (fun c1 => ?_)
  · replace h := h.1 c1
    refine lv_iconst (v := 0) hx hb dX6_isWindow_25 (by decide) ?_
    exact (xe_z hx hb hr hlocks hbase hh hK hX hS (Or.inl rfl) h (Nat.le_of_ble_eq_true rfl) (Nat.le_of_ble_eq_true rfl) dX6_isWindow_26)
  · replace h := h.2 c1
    refine lv_iload_n hx hb dX6_isWindow_4 rfl (lv_at hl 0 rfl) ?_
    refine lv_iload_n hx hb dX6_isWindow_5 rfl (lv_at hl 2 rfl) ?_
    obtain ⟨g2, h⟩ := h
    refine lv_irem hx hb dX6_isWindow_6 g2 ?_
    refine lv_if_ne (tgt := 25) hx hb dX6_isWindow_7 (by decide) (fun c3 => ?_) (fun c3 => ?_)
    · replace h := h.1 c3
      refine lv_iconst (v := 0) hx hb dX6_isWindow_25 (by decide) ?_
      exact (xe_z hx hb hr hlocks hbase hh hK hX hS (Or.inl rfl) h (Nat.le_of_ble_eq_true rfl) (Nat.le_of_ble_eq_true rfl) dX6_isWindow_26)
    · replace h := h.2 c3
      refine lv_iload_n hx hb dX6_isWindow_10 rfl (lv_at hl 1 rfl) ?_
      refine lv_iload_n hx hb dX6_isWindow_11 rfl (lv_at hl 0 rfl) ?_
      refine lv_icmp_lt (tgt := 25) hx hb dX6_isWindow_12 (by decide) (fun c4 => ?_) (fun c4 => ?_)
      · replace h := h.1 c4
        refine lv_iconst (v := 0) hx hb dX6_isWindow_25 (by decide) ?_
        exact (xe_z hx hb hr hlocks hbase hh hK hX hS (Or.inl rfl) h (Nat.le_of_ble_eq_true rfl) (Nat.le_of_ble_eq_true rfl) dX6_isWindow_26)
      · replace h := h.2 c4
        refine lv_iload_n hx hb dX6_isWindow_15 rfl (lv_at hl 1 rfl) ?_
        refine lv_iload_n hx hb dX6_isWindow_16 rfl (lv_at hl 2 rfl) ?_
        obtain ⟨g5, h⟩ := h
        refine lv_irem hx hb dX6_isWindow_17 g5 ?_
        refine lv_if_ne (tgt := 25) hx hb dX6_isWindow_18 (by decide) (fun c6 => ?_) (fun c6 => ?_)
        · replace h := h.1 c6
          refine lv_iconst (v := 0) hx hb dX6_isWindow_25 (by decide) ?_
          exact (xe_z hx hb hr hlocks hbase hh hK hX hS (Or.inl rfl) h (Nat.le_of_ble_eq_true rfl) (Nat.le_of_ble_eq_true rfl) dX6_isWindow_26)
        · replace h := h.2 c6
          refine lv_iconst (v := 1) hx hb dX6_isWindow_21 (by decide) ?_
          refine lv_goto (tgt := 26) hx hb dX6_isWindow_22 (by decide) ?_
          exact (xe_z hx hb hr hlocks hbase hh hK hX hS (Or.inr rfl) h (Nat.le_of_ble_eq_true rfl) (Nat.le_of_ble_eq_true rfl) dX6_isWindow_26)

set_option maxHeartbeats 4000000 in
set_option maxRecDepth 100000 in
theorem mt_X6_up (l : Launch) (G : GG) (base : Nat) {p1 : Int64} {p2 : Int64} {m0 : MM} {Q : Int64 → MM → Prop} (h : wp_X6_up p1 p2 m0 Q) : Met l yX6_up wsX6_up ({ frames := 0, cells := 0, slots := 0, locals := 8 }) (va_Pc [.long p1, .long p2] (SP G base m0)) (va_Ql Q (HB G base) (xA base)) 0 0 (xA base) := by
  refine Met.ofW (cc := cX6_up) (maxL := 4) (ret := (some .long)) (by decide) rfl ?_
  intro p e s m args below meth c s₁ B hml hv
  obtain ⟨rfl, hbase, hh, hK, hX⟩ := hv
  have C0 : BC p s m _ meth c G base RX6 cX6_up 4 (some .long) wsX6_up := ⟨B.exec, B.bytes, B.returns, hml, findClass_of_methodNamed B.named, atoms_spec (ws := wsX6_up) B.pre, B.notSynchronized, hK, hbase, hX⟩
  obtain ⟨hx, hb, hr, -, hown, hts, hlocks, -, -, -⟩ := id C0
  have hS : va_S (xA base) s.heap s.heap [] := va_S.rf
  have hl := lv_entry ([.long p1, .long p2]) (n := 4) (Nat.le_of_ble_eq_true rfl)
  rw [lg_entry_eq]
  generalize (lg_sl ([.long p1, .long p2]) ++ List.replicate (4 - (lg_sl ([.long p1, .long p2])).length) Slot.unset).toArray = ls at hl ⊢
  have hl : lv_has ls 4 [(0, .long p1), (2, .long p2)] := hl
  unfold wp_X6_up at h
  refine lv_lload_n hx hb dX6_up_0 rfl (lv_at hl 0 rfl) ?_
  refine lv_lload_n hx hb dX6_up_1 rfl (lv_at hl 1 rfl) ?_
  refine lv_ladd hx hb dX6_up_2 ?_
  refine lv_lconst (v := 1) hx hb dX6_up_3 (by decide) ?_
  refine lv_lsub hx hb dX6_up_4 ?_
  refine lv_lload_n hx hb dX6_up_5 rfl (lv_at hl 1 rfl) ?_
  obtain ⟨g1, h⟩ := h
  refine lv_ldiv hx hb dX6_up_6 g1 ?_
  refine lv_lload_n hx hb dX6_up_7 rfl (lv_at hl 1 rfl) ?_
  refine lv_lmul hx hb dX6_up_8 ?_
  exact (xe_l hx hb hr hlocks hbase hh hK hX hS h (Nat.le_of_ble_eq_true rfl) (Nat.le_of_ble_eq_true rfl) dX6_up_9)

set_option maxHeartbeats 4000000 in
set_option maxRecDepth 100000 in
theorem mt_X6_putPart (l : Launch) (G : GG) (base : Nat) {a0 : Nat} {p1 : Int32} {p2 : Int64} {p3 : Int64} {m0 : MM} {Q : MM → Prop} (h : wp_X6_putPart a0 p1 p2 p3 m0 Q) : Met l yX6_putPart wsX6_putPart ({ frames := 0, cells := 0, slots := 0, locals := 8 }) (va_Pc [.ref a0, .int p1, .long p2, .long p3] (SP G base m0)) (va_Qv Q (HB G base) (xA base)) 0 0 (xA base) := by
  refine Met.ofW (cc := cX6_putPart) (maxL := 6) (ret := none) (by decide) rfl ?_
  intro p e s m args below meth c s₁ B hml hv
  obtain ⟨rfl, hbase, hh, hK, hX⟩ := hv
  have C0 : BC p s m _ meth c G base RX6 cX6_putPart 6 none wsX6_putPart := ⟨B.exec, B.bytes, B.returns, hml, findClass_of_methodNamed B.named, atoms_spec (ws := wsX6_putPart) B.pre, B.notSynchronized, hK, hbase, hX⟩
  obtain ⟨hx, hb, hr, -, hown, hts, hlocks, -, -, -⟩ := id C0
  have hS : va_S (xA base) s.heap s.heap [] := va_S.rf
  have hl := lv_entry ([.ref a0, .int p1, .long p2, .long p3]) (n := 6) (Nat.le_of_ble_eq_true rfl)
  rw [lg_entry_eq]
  generalize (lg_sl ([.ref a0, .int p1, .long p2, .long p3]) ++ List.replicate (6 - (lg_sl ([.ref a0, .int p1, .long p2, .long p3])).length) Slot.unset).toArray = ls at hl ⊢
  have hl : lv_has ls 6 [(0, .ref a0), (1, .int p1), (2, .long p2), (4, .long p3)] := hl
  unfold wp_X6_putPart at h
  have hL6 : ∀ w ∈ u_ws RX6 TX6 17, w.before _ s = true := fun w h9 => hts w (List.mem_cons_of_mem _ (List.mem_append_right _ (h9)))
  have q2 : (Cond.fieldLink RX6 28 "RollupStoreModel" "part" "[J").before _ s = true := hts _ (List.mem_cons_of_mem _ (List.mem_append_left _ (List.mem_of_getElem? (i := 0) rfl)))
  refine lv_aload_n hx hb dX6_putPart_0 rfl (lv_at hl 0 rfl) ?_
  obtain ⟨g1, h⟩ := h
  obtain ⟨b2, eb2, h⟩ := h
  refine xr_getR (ci := 6) (C := RX6) (T := TX6) (N := 17) hx hb hL6 hown hK hh g1 (by decide) rfl 15 135 rfl rfl (by decide) (by decide) q2 (fun _ h9 => h9) eb2 dX6_putPart_1 ?_
  refine lv_iconst (v := 2) hx hb dX6_putPart_4 (by decide) ?_
  refine lv_iload_n hx hb dX6_putPart_5 rfl (lv_at hl 1 rfl) ?_
  refine lv_imul hx hb dX6_putPart_6 ?_
  refine lv_lload_n hx hb dX6_putPart_7 rfl (lv_at hl 2 rfl) ?_
  obtain ⟨g3, h⟩ := h
  obtain ⟨g4, h⟩ := h
  refine xr_last hx hb hK hh g3 hS g4 dX6_putPart_8 (fun H locs hh hS => ?_)
  obtain ⟨m5, em5⟩ : ∃ z : MM, z = sAJ m0 b2 (va_up (mAJ m0 b2) ((2 : Int32) * p1).toNatClampNeg p2) := ⟨_, rfl⟩
  rw [← em5] at hh
  replace h := h m5 em5
  refine lv_aload_n hx hb dX6_putPart_9 rfl (lv_at hl 0 rfl) ?_
  obtain ⟨g6, h⟩ := h
  obtain ⟨b7, eb7, h⟩ := h
  refine xr_getR (ci := 6) (C := RX6) (T := TX6) (N := 17) hx hb hL6 hown hK hh g6 (by decide) rfl 15 135 rfl rfl (by decide) (by decide) q2 (fun _ h9 => h9) eb7 dX6_putPart_10 ?_
  refine lv_iconst (v := 2) hx hb dX6_putPart_13 (by decide) ?_
  refine lv_iload_n hx hb dX6_putPart_14 rfl (lv_at hl 1 rfl) ?_
  refine lv_imul hx hb dX6_putPart_15 ?_
  refine lv_iconst (v := 1) hx hb dX6_putPart_16 (by decide) ?_
  refine lv_iadd hx hb dX6_putPart_17 ?_
  refine lv_lload hx hb dX6_putPart_18 (lv_at hl 3 rfl) ?_
  refine lv_lload_n hx hb dX6_putPart_20 rfl (lv_at hl 2 rfl) ?_
  refine W.lcmp hx hb dX6_putPart_21 ?_
  refine lv_if_le (tgt := 30) hx hb dX6_putPart_22 (by decide) (fun c8 => ?_) (fun c8 => ?_)
  · replace h := h.1 c8
    refine lv_lload_n hx hb dX6_putPart_30 rfl (lv_at hl 2 rfl) ?_
    obtain ⟨g9, h⟩ := h
    obtain ⟨g10, h⟩ := h
    refine xr_last hx hb hK hh g9 hS g10 dX6_putPart_31 (fun H locs hh hS => ?_)
    obtain ⟨m11, em11⟩ : ∃ z : MM, z = sAJ m5 b7 (va_up (mAJ m5 b7) (((2 : Int32) * p1) + (1 : Int32)).toNatClampNeg p2) := ⟨_, rfl⟩
    rw [← em11] at hh
    replace h := h m11 em11
    exact (xe_v hx hb hr hlocks hbase hh hK hX hS h (Nat.le_of_ble_eq_true rfl) (Nat.le_of_ble_eq_true rfl) dX6_putPart_32)
  · replace h := h.2 c8
    refine lv_lload hx hb dX6_putPart_25 (lv_at hl 3 rfl) ?_
    refine lv_goto (tgt := 31) hx hb dX6_putPart_27 (by decide) ?_
    obtain ⟨g12, h⟩ := h
    obtain ⟨g13, h⟩ := h
    refine xr_last hx hb hK hh g12 hS g13 dX6_putPart_31 (fun H locs hh hS => ?_)
    obtain ⟨m14, em14⟩ : ∃ z : MM, z = sAJ m5 b7 (va_up (mAJ m5 b7) (((2 : Int32) * p1) + (1 : Int32)).toNatClampNeg p3) := ⟨_, rfl⟩
    rw [← em14] at hh
    replace h := h m14 em14
    exact (xe_v hx hb hr hlocks hbase hh hK hX hS h (Nat.le_of_ble_eq_true rfl) (Nat.le_of_ble_eq_true rfl) dX6_putPart_32)

set_option maxHeartbeats 4000000 in
set_option maxRecDepth 100000 in
theorem bk_X6_takeApart_131 {p : Program} {l : Launch} {e : Env} {s : State} {m : MethodId} {args : Array Value} {below : List Frame} {meth : Method} {c : Code} {G : GG} {base : Nat} (C0 : BC p s m args meth c G base RX6 cX6_takeApart 13 none wsX6_takeApart) {Q : MM → Prop} : ∀ (l0 : Nat) (l2 : Int32) (l9 : Int64) (l12 : Int32) (s0 : Int64) (s1 : Int64) (s2 : Int32) (s3 : Nat) (m0 : MM) (H : Heap) (locs : List Loc) (ls : Array Slot), wp_X6_takeApart_131 Q l0 l2 l9 l12 s0 s1 s2 s3 m0 → hp G (xA base) m0 H → va_S (xA base) s.heap H locs → lv_has ls 13 [(0, .ref l0), (2, .int l2), (9, .long l9), (12, .int l12)] → W p l e ({ frames := 1, cells := 0, slots := 0, locals := 33 } : Room) s m args below meth c H locs 0 0 (MQ below (va_Qv Q (HB G base) (xA base)) args s 0 0 (xA base)) (F0 m 131 ls [.long s0, .long s1, .int s2, .ref s3]) := by
  obtain ⟨hx, hb, hr, hml, hown, hts, hlocks, hK, hbase, hX⟩ := id C0
  intro l0 l2 l9 l12 s0 s1 s2 s3 m0 H locs ls h hh hS hl
  unfold wp_X6_takeApart_131 at h
  obtain ⟨g21, h⟩ := h
  refine xc_v (va_runV (As := [.int s2, .long s1, .long s0]) (rest := []) ⟨hx, hb, hml, hown, hts⟩ (mt_X6_putPart l G base h) (cwV 3 hts gX6_takeApart_X6_putPart rfl rfl rfl (by decide +kernel) ⟨Nat.le_of_ble_eq_true rfl, Nat.le_of_ble_eq_true rfl⟩) (xp_V hbase hh hK hX hS (ci := 6) g21 (by decide) rfl) rfl rfl hl.1 rfl (lv_room (Nat.le_of_ble_eq_true rfl)) dX6_takeApart_131 ⟨Nat.le_of_ble_eq_true rfl, Nat.le_of_ble_eq_true rfl⟩) hS (fun m23 H locs h hh hS => ?_)
  refine lv_aload_n hx hb dX6_takeApart_134 rfl (lv_at hl 0 rfl) ?_
  refine lv_iconst (v := 4) hx hb dX6_takeApart_135 (by decide) ?_
  refine lv_iload hx hb dX6_takeApart_136 (lv_at hl 3 rfl) ?_
  refine lv_if_eq (tgt := 146) hx hb dX6_takeApart_138 (by decide) (fun c24 => ?_) (fun c24 => ?_)
  · replace h := h.1 c24
    refine lv_iload_n hx hb dX6_takeApart_146 rfl (lv_at hl 1 rfl) ?_
    refine lv_i2l hx hb dX6_takeApart_147 rfl ?_
    refine lv_iload_n hx hb dX6_takeApart_148 rfl (lv_at hl 1 rfl) ?_
    refine lv_i2l hx hb dX6_takeApart_149 rfl ?_
    obtain ⟨g25, h⟩ := h
    refine xc_v (va_runV (As := [.int (4 : Int32), .long l2.toInt64, .long l2.toInt64]) (rest := []) ⟨hx, hb, hml, hown, hts⟩ (mt_X6_putPart l G base h) (cwV 3 hts gX6_takeApart_X6_putPart rfl rfl rfl (by decide +kernel) ⟨Nat.le_of_ble_eq_true rfl, Nat.le_of_ble_eq_true rfl⟩) (xp_V hbase hh hK hX hS (ci := 6) g25 (by decide) rfl) rfl rfl hl.1 rfl (lv_room (Nat.le_of_ble_eq_true rfl)) dX6_takeApart_150 ⟨Nat.le_of_ble_eq_true rfl, Nat.le_of_ble_eq_true rfl⟩) hS (fun m27 H locs h hh hS => ?_)
    exact (xe_v hx hb hr hlocks hbase hh hK hX hS h (Nat.le_of_ble_eq_true rfl) (Nat.le_of_ble_eq_true rfl) dX6_takeApart_153)
  · replace h := h.2 c24
    refine lv_lload hx hb dX6_takeApart_141 (lv_at hl 2 rfl) ?_
    refine lv_goto (tgt := 148) hx hb dX6_takeApart_143 (by decide) ?_
    refine lv_iload_n hx hb dX6_takeApart_148 rfl (lv_at hl 1 rfl) ?_
    refine lv_i2l hx hb dX6_takeApart_149 rfl ?_
    obtain ⟨g28, h⟩ := h
    refine xc_v (va_runV (As := [.int (4 : Int32), .long l9, .long l2.toInt64]) (rest := []) ⟨hx, hb, hml, hown, hts⟩ (mt_X6_putPart l G base h) (cwV 3 hts gX6_takeApart_X6_putPart rfl rfl rfl (by decide +kernel) ⟨Nat.le_of_ble_eq_true rfl, Nat.le_of_ble_eq_true rfl⟩) (xp_V hbase hh hK hX hS (ci := 6) g28 (by decide) rfl) rfl rfl hl.1 rfl (lv_room (Nat.le_of_ble_eq_true rfl)) dX6_takeApart_150 ⟨Nat.le_of_ble_eq_true rfl, Nat.le_of_ble_eq_true rfl⟩) hS (fun m30 H locs h hh hS => ?_)
    exact (xe_v hx hb hr hlocks hbase hh hK hX hS h (Nat.le_of_ble_eq_true rfl) (Nat.le_of_ble_eq_true rfl) dX6_takeApart_153)

set_option maxHeartbeats 4000000 in
set_option maxRecDepth 100000 in
theorem bk_X6_takeApart_110 {p : Program} {l : Launch} {e : Env} {s : State} {m : MethodId} {args : Array Value} {below : List Frame} {meth : Method} {c : Code} {G : GG} {base : Nat} (C0 : BC p s m args meth c G base RX6 cX6_takeApart 13 none wsX6_takeApart) {Q : MM → Prop} : ∀ (l0 : Nat) (l1 : Int32) (l2 : Int32) (l7 : Int64) (l9 : Int64) (l12 : Int32) (s0 : Int64) (s1 : Int32) (s2 : Nat) (m0 : MM) (H : Heap) (locs : List Loc) (ls : Array Slot), wp_X6_takeApart_110 Q l0 l1 l2 l7 l9 l12 s0 s1 s2 m0 → hp G (xA base) m0 H → va_S (xA base) s.heap H locs → lv_has ls 13 [(0, .ref l0), (1, .int l1), (2, .int l2), (7, .long l7), (9, .long l9), (12, .int l12)] → W p l e ({ frames := 1, cells := 0, slots := 0, locals := 33 } : Room) s m args below meth c H locs 0 0 (MQ below (va_Qv Q (HB G base) (xA base)) args s 0 0 (xA base)) (F0 m 110 ls [.long s0, .int s1, .ref s2]) := by
  obtain ⟨hx, hb, hr, hml, hown, hts, hlocks, hK, hbase, hX⟩ := id C0
  intro l0 l1 l2 l7 l9 l12 s0 s1 s2 m0 H locs ls h hh hS hl
  unfold wp_X6_takeApart_110 at h
  refine lv_lload hx hb dX6_takeApart_110 (lv_at hl 4 rfl) ?_
  obtain ⟨g17, h⟩ := h
  refine xc_v (va_runV (As := [.int s1, .long s0, .long l9]) (rest := []) ⟨hx, hb, hml, hown, hts⟩ (mt_X6_putPart l G base h) (cwV 3 hts gX6_takeApart_X6_putPart rfl rfl rfl (by decide +kernel) ⟨Nat.le_of_ble_eq_true rfl, Nat.le_of_ble_eq_true rfl⟩) (xp_V hbase hh hK hX hS (ci := 6) g17 (by decide) rfl) rfl rfl hl.1 rfl (lv_room (Nat.le_of_ble_eq_true rfl)) dX6_takeApart_112 ⟨Nat.le_of_ble_eq_true rfl, Nat.le_of_ble_eq_true rfl⟩) hS (fun m19 H locs h hh hS => ?_)
  refine lv_aload_n hx hb dX6_takeApart_115 rfl (lv_at hl 0 rfl) ?_
  refine lv_iconst (v := 3) hx hb dX6_takeApart_116 (by decide) ?_
  refine lv_iload_n hx hb dX6_takeApart_117 rfl (lv_at hl 1 rfl) ?_
  refine lv_i2l hx hb dX6_takeApart_118 rfl ?_
  refine lv_iload hx hb dX6_takeApart_119 (lv_at hl 5 rfl) ?_
  refine lv_if_eq (tgt := 129) hx hb dX6_takeApart_121 (by decide) (fun c20 => ?_) (fun c20 => ?_)
  · replace h := h.1 c20
    refine lv_iload_n hx hb dX6_takeApart_129 rfl (lv_at hl 2 rfl) ?_
    refine lv_i2l hx hb dX6_takeApart_130 rfl ?_
    exact bk_X6_takeApart_131 C0  _ _ _ _ _ _ _ _ _ _ _ _ h hh hS (lv_sub hl [0, 2, 4, 5] rfl)
  · replace h := h.2 c20
    refine lv_lload hx hb dX6_takeApart_124 (lv_at hl 3 rfl) ?_
    refine lv_goto (tgt := 131) hx hb dX6_takeApart_126 (by decide) ?_
    exact bk_X6_takeApart_131 C0  _ _ _ _ _ _ _ _ _ _ _ _ h hh hS (lv_sub hl [0, 2, 4, 5] rfl)

set_option maxHeartbeats 4000000 in
set_option maxRecDepth 100000 in
theorem bk_X6_takeApart_93 {p : Program} {l : Launch} {e : Env} {s : State} {m : MethodId} {args : Array Value} {below : List Frame} {meth : Method} {c : Code} {G : GG} {base : Nat} (C0 : BC p s m args meth c G base RX6 cX6_takeApart 13 none wsX6_takeApart) {Q : MM → Prop} : ∀ (l0 : Nat) (l1 : Int32) (l2 : Int32) (l5 : Int64) (l7 : Int64) (l9 : Int64) (l11 : Int32) (l12 : Int32) (s0 : Int64) (s1 : Int64) (s2 : Int32) (s3 : Nat) (m0 : MM) (H : Heap) (locs : List Loc) (ls : Array Slot), wp_X6_takeApart_93 Q l0 l1 l2 l5 l7 l9 l11 l12 s0 s1 s2 s3 m0 → hp G (xA base) m0 H → va_S (xA base) s.heap H locs → lv_has ls 13 [(0, .ref l0), (1, .int l1), (2, .int l2), (5, .long l5), (7, .long l7), (9, .long l9), (11, .int l11), (12, .int l12)] → W p l e ({ frames := 1, cells := 0, slots := 0, locals := 33 } : Room) s m args below meth c H locs 0 0 (MQ below (va_Qv Q (HB G base) (xA base)) args s 0 0 (xA base)) (F0 m 93 ls [.long s0, .long s1, .int s2, .ref s3]) := by
  obtain ⟨hx, hb, hr, hml, hown, hts, hlocks, hK, hbase, hX⟩ := id C0
  intro l0 l1 l2 l5 l7 l9 l11 l12 s0 s1 s2 s3 m0 H locs ls h hh hS hl
  unfold wp_X6_takeApart_93 at h
  obtain ⟨g13, h⟩ := h
  refine xc_v (va_runV (As := [.int s2, .long s1, .long s0]) (rest := []) ⟨hx, hb, hml, hown, hts⟩ (mt_X6_putPart l G base h) (cwV 3 hts gX6_takeApart_X6_putPart rfl rfl rfl (by decide +kernel) ⟨Nat.le_of_ble_eq_true rfl, Nat.le_of_ble_eq_true rfl⟩) (xp_V hbase hh hK hX hS (ci := 6) g13 (by decide) rfl) rfl rfl hl.1 rfl (lv_room (Nat.le_of_ble_eq_true rfl)) dX6_takeApart_93 ⟨Nat.le_of_ble_eq_true rfl, Nat.le_of_ble_eq_true rfl⟩) hS (fun m15 H locs h hh hS => ?_)
  refine lv_aload_n hx hb dX6_takeApart_96 rfl (lv_at hl 0 rfl) ?_
  refine lv_iconst (v := 2) hx hb dX6_takeApart_97 (by decide) ?_
  refine lv_iload hx hb dX6_takeApart_98 (lv_at hl 6 rfl) ?_
  refine lv_if_eq (tgt := 108) hx hb dX6_takeApart_100 (by decide) (fun c16 => ?_) (fun c16 => ?_)
  · replace h := h.1 c16
    refine lv_lload hx hb dX6_takeApart_108 (lv_at hl 5 rfl) ?_
    exact bk_X6_takeApart_110 C0  _ _ _ _ _ _ _ _ _ _ _ _ _ h hh hS (lv_sub hl [0, 1, 2, 4, 5, 7] rfl)
  · replace h := h.2 c16
    refine lv_lload hx hb dX6_takeApart_103 (lv_at hl 3 rfl) ?_
    refine lv_goto (tgt := 110) hx hb dX6_takeApart_105 (by decide) ?_
    exact bk_X6_takeApart_110 C0  _ _ _ _ _ _ _ _ _ _ _ _ _ h hh hS (lv_sub hl [0, 1, 2, 4, 5, 7] rfl)

set_option maxHeartbeats 4000000 in
set_option maxRecDepth 100000 in
theorem bk_X6_takeApart_68 {p : Program} {l : Launch} {e : Env} {s : State} {m : MethodId} {args : Array Value} {below : List Frame} {meth : Method} {c : Code} {G : GG} {base : Nat} (C0 : BC p s m args meth c G base RX6 cX6_takeApart 13 none wsX6_takeApart) {Q : MM → Prop} : ∀ (l0 : Nat) (l1 : Int32) (l2 : Int32) (l3 : Int64) (l5 : Int64) (l7 : Int64) (l9 : Int64) (l11 : Int32) (s0 : Int32) (m0 : MM) (H : Heap) (locs : List Loc) (ls : Array Slot), wp_X6_takeApart_68 Q l0 l1 l2 l3 l5 l7 l9 l11 s0 m0 → hp G (xA base) m0 H → va_S (xA base) s.heap H locs → lv_has ls 13 [(0, .ref l0), (1, .int l1), (2, .int l2), (3, .long l3), (5, .long l5), (7, .long l7), (9, .long l9), (11, .int l11)] → W p l e ({ frames := 1, cells := 0, slots := 0, locals := 33 } : Room) s m args below meth c H locs 0 0 (MQ below (va_Qv Q (HB G base) (xA base)) args s 0 0 (xA base)) (F0 m 68 ls [.int s0]) := by
  obtain ⟨hx, hb, hr, hml, hown, hts, hlocks, hK, hbase, hX⟩ := id C0
  intro l0 l1 l2 l3 l5 l7 l9 l11 s0 m0 H locs ls h hh hS hl
  unfold wp_X6_takeApart_68 at h
  refine lv_istore (lv' := [(12, .int s0), (0, .ref l0), (1, .int l1), (2, .int l2), (3, .long l3), (5, .long l5), (7, .long l7), (9, .long l9), (11, .int l11)]) hx hb dX6_takeApart_68 hl (by decide) rfl (fun ls hl => ?_)
  refine lv_aload_n hx hb dX6_takeApart_70 rfl (lv_at hl 1 rfl) ?_
  refine lv_iconst (v := 0) hx hb dX6_takeApart_71 (by decide) ?_
  refine lv_lload_n hx hb dX6_takeApart_72 rfl (lv_at hl 4 rfl) ?_
  refine lv_lload hx hb dX6_takeApart_73 (lv_at hl 5 rfl) ?_
  obtain ⟨g9, h⟩ := h
  refine xc_v (va_runV (As := [.int (0 : Int32), .long l3, .long l5]) (rest := []) ⟨hx, hb, hml, hown, hts⟩ (mt_X6_putPart l G base h) (cwV 3 hts gX6_takeApart_X6_putPart rfl rfl rfl (by decide +kernel) ⟨Nat.le_of_ble_eq_true rfl, Nat.le_of_ble_eq_true rfl⟩) (xp_V hbase hh hK hX hS (ci := 6) g9 (by decide) rfl) rfl rfl hl.1 rfl (lv_room (Nat.le_of_ble_eq_true rfl)) dX6_takeApart_75 ⟨Nat.le_of_ble_eq_true rfl, Nat.le_of_ble_eq_true rfl⟩) hS (fun m11 H locs h hh hS => ?_)
  refine lv_aload_n hx hb dX6_takeApart_78 rfl (lv_at hl 1 rfl) ?_
  refine lv_iconst (v := 1) hx hb dX6_takeApart_79 (by decide) ?_
  refine lv_lload hx hb dX6_takeApart_80 (lv_at hl 6 rfl) ?_
  refine lv_iload hx hb dX6_takeApart_82 (lv_at hl 8 rfl) ?_
  refine lv_if_eq (tgt := 91) hx hb dX6_takeApart_84 (by decide) (fun c12 => ?_) (fun c12 => ?_)
  · replace h := h.1 c12
    refine lv_lload hx hb dX6_takeApart_91 (lv_at hl 7 rfl) ?_
    exact bk_X6_takeApart_93 C0  _ _ _ _ _ _ _ _ _ _ _ _ _ _ _ _ h hh hS (lv_sub hl [1, 2, 3, 5, 6, 7, 8, 0] rfl)
  · replace h := h.2 c12
    refine lv_lload_n hx hb dX6_takeApart_87 rfl (lv_at hl 4 rfl) ?_
    refine lv_goto (tgt := 93) hx hb dX6_takeApart_88 (by decide) ?_
    exact bk_X6_takeApart_93 C0  _ _ _ _ _ _ _ _ _ _ _ _ _ _ _ _ h hh hS (lv_sub hl [1, 2, 3, 5, 6, 7, 8, 0] rfl)

set_option maxHeartbeats 4000000 in
set_option maxRecDepth 100000 in
theorem bk_X6_takeApart_53 {p : Program} {l : Launch} {e : Env} {s : State} {m : MethodId} {args : Array Value} {below : List Frame} {meth : Method} {c : Code} {G : GG} {base : Nat} (C0 : BC p s m args meth c G base RX6 cX6_takeApart 13 none wsX6_takeApart) {Q : MM → Prop} : ∀ (l0 : Nat) (l1 : Int32) (l2 : Int32) (l3 : Int64) (l5 : Int64) (l7 : Int64) (l9 : Int64) (s0 : Int32) (m0 : MM) (H : Heap) (locs : List Loc) (ls : Array Slot), wp_X6_takeApart_53 Q l0 l1 l2 l3 l5 l7 l9 s0 m0 → hp G (xA base) m0 H → va_S (xA base) s.heap H locs → lv_has ls 13 [(0, .ref l0), (1, .int l1), (2, .int l2), (3, .long l3), (5, .long l5), (7, .long l7), (9, .long l9)] → W p l e ({ frames := 1, cells := 0, slots := 0, locals := 33 } : Room) s m args below meth c H locs 0 0 (MQ below (va_Qv Q (HB G base) (xA base)) args s 0 0 (xA base)) (F0 m 53 ls [.int s0]) := by
  obtain ⟨hx, hb, hr, hml, hown, hts, hlocks, hK, hbase, hX⟩ := id C0
  intro l0 l1 l2 l3 l5 l7 l9 s0 m0 H locs ls h hh hS hl
  unfold wp_X6_takeApart_53 at h
  refine lv_istore (lv' := [(11, .int s0), (0, .ref l0), (1, .int l1), (2, .int l2), (3, .long l3), (5, .long l5), (7, .long l7), (9, .long l9)]) hx hb dX6_takeApart_53 hl (by decide) rfl (fun ls hl => ?_)
  refine lv_lload hx hb dX6_takeApart_55 (lv_at hl 6 rfl) ?_
  refine lv_lload hx hb dX6_takeApart_57 (lv_at hl 7 rfl) ?_
  refine W.lcmp hx hb dX6_takeApart_59 ?_
  refine lv_if_ge (tgt := 67) hx hb dX6_takeApart_60 (by decide) (fun c8 => ?_) (fun c8 => ?_)
  · replace h := h.1 c8
    refine lv_iconst (v := 0) hx hb dX6_takeApart_67 (by decide) ?_
    exact bk_X6_takeApart_68 C0  _ _ _ _ _ _ _ _ _ _ _ _ _ h hh hS (lv_sub hl [1, 2, 3, 4, 5, 6, 7, 0] rfl)
  · replace h := h.2 c8
    refine lv_iconst (v := 1) hx hb dX6_takeApart_63 (by decide) ?_
    refine lv_goto (tgt := 68) hx hb dX6_takeApart_64 (by decide) ?_
    exact bk_X6_takeApart_68 C0  _ _ _ _ _ _ _ _ _ _ _ _ _ h hh hS (lv_sub hl [1, 2, 3, 4, 5, 6, 7, 0] rfl)

set_option maxHeartbeats 4000000 in
set_option maxRecDepth 100000 in
theorem mt_X6_takeApart (l : Launch) (G : GG) (base : Nat) {a0 : Nat} {p1 : Int32} {p2 : Int32} {m0 : MM} {Q : MM → Prop} (h : wp_X6_takeApart a0 p1 p2 m0 Q) : Met l yX6_takeApart wsX6_takeApart ({ frames := 1, cells := 0, slots := 0, locals := 33 }) (va_Pc [.ref a0, .int p1, .int p2] (SP G base m0)) (va_Qv Q (HB G base) (xA base)) 0 0 (xA base) := by
  refine Met.ofW (cc := cX6_takeApart) (maxL := 13) (ret := none) (by decide) rfl ?_
  intro p e s m args below meth c s₁ B hml hv
  obtain ⟨rfl, hbase, hh, hK, hX⟩ := hv
  have C0 : BC p s m _ meth c G base RX6 cX6_takeApart 13 none wsX6_takeApart := ⟨B.exec, B.bytes, B.returns, hml, findClass_of_methodNamed B.named, atoms_spec (ws := wsX6_takeApart) B.pre, B.notSynchronized, hK, hbase, hX⟩
  obtain ⟨hx, hb, hr, -, hown, hts, hlocks, -, -, -⟩ := id C0
  have hS : va_S (xA base) s.heap s.heap [] := va_S.rf
  have hl := lv_entry ([.ref a0, .int p1, .int p2]) (n := 13) (Nat.le_of_ble_eq_true rfl)
  rw [lg_entry_eq]
  generalize (lg_sl ([.ref a0, .int p1, .int p2]) ++ List.replicate (13 - (lg_sl ([.ref a0, .int p1, .int p2])).length) Slot.unset).toArray = ls at hl ⊢
  have hl : lv_has ls 13 [(0, .ref a0), (1, .int p1), (2, .int p2)] := hl
  unfold wp_X6_takeApart at h
  have q1 : (Cond.constantLong RX6 142 (86400)).before _ s = true := hts _ (List.mem_cons_of_mem _ (List.mem_append_left _ (List.mem_of_getElem? (i := 0) rfl)))
  have q2 : (Cond.constant RX6 32 (86400)).before _ s = true := hts _ (List.mem_cons_of_mem _ (List.mem_append_left _ (List.mem_of_getElem? (i := 1) rfl)))
  have q3 : (Cond.constantLong RX6 148 (3600)).before _ s = true := hts _ (List.mem_cons_of_mem _ (List.mem_append_left _ (List.mem_of_getElem? (i := 2) rfl)))
  refine lv_iload_n hx hb dX6_takeApart_0 rfl (lv_at hl 1 rfl) ?_
  refine lv_i2l hx hb dX6_takeApart_1 rfl ?_
  refine lv_ldc2 hx hb hown q1 dX6_takeApart_2 ?_
  refine xc_l (va_runS (As := [.long p1.toInt64, .long (86400 : Int64)]) (rest := []) ⟨hx, hb, hml, hown, hts⟩ (mt_X6_up l G base h) (va_cwS 2 hts gX6_takeApart_X6_up rfl rfl rfl (by decide +kernel) ⟨Nat.le_of_ble_eq_true rfl, Nat.le_of_ble_eq_true rfl⟩) (xp_S hbase hh hK hX hS) rfl rfl hl.1 rfl (lv_room (Nat.le_of_ble_eq_true rfl)) dX6_takeApart_5 ⟨Nat.le_of_ble_eq_true rfl, Nat.le_of_ble_eq_true rfl⟩) hS (fun r1 m2 H locs h hh hS => ?_)
  refine lv_lstore_n (lv' := [(3, .long r1), (0, .ref a0), (1, .int p1), (2, .int p2)]) hx hb dX6_takeApart_8 rfl hl (by decide) rfl (fun ls hl => ?_)
  refine lv_iload_n hx hb dX6_takeApart_9 rfl (lv_at hl 3 rfl) ?_
  refine lv_ldc hx hb hown q2 dX6_takeApart_10 ?_
  refine lv_idiv hx hb dX6_takeApart_12 (by decide) ?_
  refine lv_ldc hx hb hown q2 dX6_takeApart_13 ?_
  refine lv_imul hx hb dX6_takeApart_15 ?_
  refine lv_i2l hx hb dX6_takeApart_16 rfl ?_
  refine lv_topl (fun x3 ex3 => ?_)
  replace h := h x3 ex3
  refine lv_lstore (lv' := [(5, .long x3), (3, .long r1), (0, .ref a0), (1, .int p1), (2, .int p2)]) hx hb dX6_takeApart_17 hl (by decide) rfl (fun ls hl => ?_)
  refine lv_iload_n hx hb dX6_takeApart_19 rfl (lv_at hl 3 rfl) ?_
  refine lv_i2l hx hb dX6_takeApart_20 rfl ?_
  refine lv_ldc2 hx hb hown q3 dX6_takeApart_21 ?_
  refine xc_l (va_runS (As := [.long p1.toInt64, .long (3600 : Int64)]) (rest := []) ⟨hx, hb, hml, hown, hts⟩ (mt_X6_up l G base h) (va_cwS 2 hts gX6_takeApart_X6_up rfl rfl rfl (by decide +kernel) ⟨Nat.le_of_ble_eq_true rfl, Nat.le_of_ble_eq_true rfl⟩) (xp_S hbase hh hK hX hS) rfl rfl hl.1 rfl (lv_room (Nat.le_of_ble_eq_true rfl)) dX6_takeApart_24 ⟨Nat.le_of_ble_eq_true rfl, Nat.le_of_ble_eq_true rfl⟩) hS (fun r4 m5 H locs h hh hS => ?_)
  refine lv_lstore (lv' := [(7, .long r4), (5, .long x3), (3, .long r1), (0, .ref a0), (1, .int p1), (2, .int p2)]) hx hb dX6_takeApart_27 hl (by decide) rfl (fun ls hl => ?_)
  refine lv_iload_n hx hb dX6_takeApart_29 rfl (lv_at hl 5 rfl) ?_
  refine lv_sipush (v := 3600) hx hb dX6_takeApart_30 (by decide) ?_
  refine lv_idiv hx hb dX6_takeApart_33 (by decide) ?_
  refine lv_sipush (v := 3600) hx hb dX6_takeApart_34 (by decide) ?_
  refine lv_imul hx hb dX6_takeApart_37 ?_
  refine lv_i2l hx hb dX6_takeApart_38 rfl ?_
  refine lv_topl (fun x6 ex6 => ?_)
  replace h := h x6 ex6
  refine lv_lstore (lv' := [(9, .long x6), (7, .long r4), (5, .long x3), (3, .long r1), (0, .ref a0), (1, .int p1), (2, .int p2)]) hx hb dX6_takeApart_39 hl (by decide) rfl (fun ls hl => ?_)
  refine lv_lload_n hx hb dX6_takeApart_41 rfl (lv_at hl 3 rfl) ?_
  refine lv_lload hx hb dX6_takeApart_42 (lv_at hl 2 rfl) ?_
  refine W.lcmp hx hb dX6_takeApart_44 ?_
  refine lv_if_ge (tgt := 52) hx hb dX6_takeApart_45 (by decide) (fun c7 => ?_) (fun c7 => ?_)
  · replace h := h.1 c7
    refine lv_iconst (v := 0) hx hb dX6_takeApart_52 (by decide) ?_
    exact bk_X6_takeApart_53 C0  _ _ _ _ _ _ _ _ _ _ _ _ h hh hS (lv_sub hl [4, 5, 6, 3, 2, 1, 0] rfl)
  · replace h := h.2 c7
    refine lv_iconst (v := 1) hx hb dX6_takeApart_48 (by decide) ?_
    refine lv_goto (tgt := 53) hx hb dX6_takeApart_49 (by decide) ?_
    exact bk_X6_takeApart_53 C0  _ _ _ _ _ _ _ _ _ _ _ _ h hh hS (lv_sub hl [4, 5, 6, 3, 2, 1, 0] rfl)

set_option maxHeartbeats 4000000 in
set_option maxRecDepth 100000 in
theorem mt_X6_parts (l : Launch) (G : GG) (base : Nat) {a0 : Nat} {p1 : Int32} {p2 : Int32} {m0 : MM} {Q : Int32 → MM → Prop} (h : wp_X6_parts a0 p1 p2 m0 Q) : Met l yX6_parts wsX6_parts ({ frames := 2, cells := 0, slots := 0, locals := 65 }) (va_Pc [.ref a0, .int p1, .int p2] (SP G base m0)) (va_Qi Q (HB G base) (xA base)) 0 0 (xA base) := by
  refine Met.ofW (cc := cX6_parts) (maxL := 5) (ret := (some .int)) (by decide) rfl ?_
  intro p e s m args below meth c s₁ B hml hv
  obtain ⟨rfl, hbase, hh, hK, hX⟩ := hv
  have C0 : BC p s m _ meth c G base RX6 cX6_parts 5 (some .int) wsX6_parts := ⟨B.exec, B.bytes, B.returns, hml, findClass_of_methodNamed B.named, atoms_spec (ws := wsX6_parts) B.pre, B.notSynchronized, hK, hbase, hX⟩
  obtain ⟨hx, hb, hr, -, hown, hts, hlocks, -, -, -⟩ := id C0
  have hS : va_S (xA base) s.heap s.heap [] := va_S.rf
  have hl := lv_entry ([.ref a0, .int p1, .int p2]) (n := 5) (Nat.le_of_ble_eq_true rfl)
  rw [lg_entry_eq]
  generalize (lg_sl ([.ref a0, .int p1, .int p2]) ++ List.replicate (5 - (lg_sl ([.ref a0, .int p1, .int p2])).length) Slot.unset).toArray = ls at hl ⊢
  have hl : lv_has ls 5 [(0, .ref a0), (1, .int p1), (2, .int p2)] := hl
  unfold wp_X6_parts at h
  have hL6 : ∀ w ∈ u_ws RX6 TX6 17, w.before _ s = true := fun w h9 => hts w (List.mem_cons_of_mem _ (List.mem_append_right _ (h9)))
  have q2 : (Cond.fieldLink RX6 28 "RollupStoreModel" "part" "[J").before _ s = true := hts _ (List.mem_cons_of_mem _ (List.mem_append_left _ (List.mem_append_left _ (List.mem_of_getElem? (i := 0) rfl))))
  have q3 : (Cond.constantLong RX6 142 (86400)).before _ s = true := hts _ (List.mem_cons_of_mem _ (List.mem_append_left _ (List.mem_append_left _ (List.mem_of_getElem? (i := 1) rfl))))
  have q4 : (Cond.constantLong RX6 148 (3600)).before _ s = true := hts _ (List.mem_cons_of_mem _ (List.mem_append_left _ (List.mem_append_left _ (List.mem_of_getElem? (i := 2) rfl))))
  have q5 : (Cond.constantLong RX6 161 (60)).before _ s = true := hts _ (List.mem_cons_of_mem _ (List.mem_append_left _ (List.mem_append_left _ (List.mem_of_getElem? (i := 3) rfl))))
  refine lv_aload_n hx hb dX6_parts_0 rfl (lv_at hl 0 rfl) ?_
  refine lv_iload_n hx hb dX6_parts_1 rfl (lv_at hl 1 rfl) ?_
  refine lv_iload_n hx hb dX6_parts_2 rfl (lv_at hl 2 rfl) ?_
  refine lv_bipush (v := 60) hx hb dX6_parts_3 (by decide) ?_
  refine xc_i (va_runS (As := [.int p1, .int p2, .int (60 : Int32)]) (rest := [.ref a0]) ⟨hx, hb, hml, hown, hts⟩ (mt_X6_isWindow l G base h) (va_cwS 3 hts gX6_parts_X6_isWindow rfl rfl rfl (by decide +kernel) ⟨Nat.le_of_ble_eq_true rfl, Nat.le_of_ble_eq_true rfl⟩) (xp_S hbase hh hK hX hS) rfl rfl hl.1 rfl (lv_room (Nat.le_of_ble_eq_true rfl)) dX6_parts_5 ⟨Nat.le_of_ble_eq_true rfl, Nat.le_of_ble_eq_true rfl⟩) hS (fun r1 m2 H locs h hh hS => ?_)
  refine lv_if_eq (tgt := 15) hx hb dX6_parts_8 (by decide) (fun c3 => ?_) (fun c3 => ?_)
  · replace h := h.1 c3
    refine lv_iconst (v := 1) hx hb dX6_parts_15 (by decide) ?_
    obtain ⟨g4, h⟩ := h
    refine xc_i (va_runV (As := [.int (1 : Int32)]) (rest := []) ⟨hx, hb, hml, hown, hts⟩ (mt_X6_can l G base h) (cwV 1 hts gX6_parts_X6_can rfl rfl rfl (by decide +kernel) ⟨Nat.le_of_ble_eq_true rfl, Nat.le_of_ble_eq_true rfl⟩) (xp_V hbase hh hK hX hS (ci := 6) g4 (by decide) rfl) rfl rfl hl.1 rfl (lv_room (Nat.le_of_ble_eq_true rfl)) dX6_parts_16 ⟨Nat.le_of_ble_eq_true rfl, Nat.le_of_ble_eq_true rfl⟩) hS (fun r5 m6 H locs h hh hS => ?_)
    refine lv_if_ne (tgt := 24) hx hb dX6_parts_19 (by decide) (fun c7 => ?_) (fun c7 => ?_)
    · replace h := h.1 c7
      refine lv_aload_n hx hb dX6_parts_24 rfl (lv_at hl 0 rfl) ?_
      refine lv_iload_n hx hb dX6_parts_25 rfl (lv_at hl 1 rfl) ?_
      refine lv_iload_n hx hb dX6_parts_26 rfl (lv_at hl 2 rfl) ?_
      obtain ⟨g8, h⟩ := h
      refine xc_v (va_runV (As := [.int p1, .int p2]) (rest := []) ⟨hx, hb, hml, hown, hts⟩ (mt_X6_takeApart l G base h) (cwV 2 hts gX6_parts_X6_takeApart rfl rfl rfl (by decide +kernel) ⟨Nat.le_of_ble_eq_true rfl, Nat.le_of_ble_eq_true rfl⟩) (xp_V hbase hh hK hX hS (ci := 6) g8 (by decide) rfl) rfl rfl hl.1 rfl (lv_room (Nat.le_of_ble_eq_true rfl)) dX6_parts_27 ⟨Nat.le_of_ble_eq_true rfl, Nat.le_of_ble_eq_true rfl⟩) hS (fun m10 H locs h hh hS => ?_)
      refine lv_aload_n hx hb dX6_parts_30 rfl (lv_at hl 0 rfl) ?_
      obtain ⟨g11, h⟩ := h
      obtain ⟨b12, eb12, h⟩ := h
      refine xr_getR (ci := 6) (C := RX6) (T := TX6) (N := 17) hx hb hL6 hown hK hh g11 (by decide) rfl 15 135 rfl rfl (by decide) (by decide) q2 (fun _ h9 => h9) eb12 dX6_parts_31 ?_
      refine lv_iconst (v := 1) hx hb dX6_parts_34 (by decide) ?_
      obtain ⟨g13, h⟩ := h
      obtain ⟨g14, h⟩ := h
      refine xr_lald hx hb hK hh g13 g14 dX6_parts_35 ?_
      refine lv_aload_n hx hb dX6_parts_36 rfl (lv_at hl 0 rfl) ?_
      obtain ⟨g15, h⟩ := h
      obtain ⟨b16, eb16, h⟩ := h
      refine xr_getR (ci := 6) (C := RX6) (T := TX6) (N := 17) hx hb hL6 hown hK hh g15 (by decide) rfl 15 135 rfl rfl (by decide) (by decide) q2 (fun _ h9 => h9) eb16 dX6_parts_37 ?_
      refine lv_iconst (v := 0) hx hb dX6_parts_40 (by decide) ?_
      obtain ⟨g17, h⟩ := h
      obtain ⟨g18, h⟩ := h
      refine xr_lald hx hb hK hh g17 g18 dX6_parts_41 ?_
      refine lv_lsub hx hb dX6_parts_42 ?_
      refine lv_ldc2 hx hb hown q3 dX6_parts_43 ?_
      refine lv_ldiv hx hb dX6_parts_46 (by decide) ?_
      refine lv_aload_n hx hb dX6_parts_47 rfl (lv_at hl 0 rfl) ?_
      obtain ⟨g19, h⟩ := h
      obtain ⟨b20, eb20, h⟩ := h
      refine xr_getR (ci := 6) (C := RX6) (T := TX6) (N := 17) hx hb hL6 hown hK hh g19 (by decide) rfl 15 135 rfl rfl (by decide) (by decide) q2 (fun _ h9 => h9) eb20 dX6_parts_48 ?_
      refine lv_iconst (v := 3) hx hb dX6_parts_51 (by decide) ?_
      obtain ⟨g21, h⟩ := h
      obtain ⟨g22, h⟩ := h
      refine xr_lald hx hb hK hh g21 g22 dX6_parts_52 ?_
      refine lv_aload_n hx hb dX6_parts_53 rfl (lv_at hl 0 rfl) ?_
      obtain ⟨g23, h⟩ := h
      obtain ⟨b24, eb24, h⟩ := h
      refine xr_getR (ci := 6) (C := RX6) (T := TX6) (N := 17) hx hb hL6 hown hK hh g23 (by decide) rfl 15 135 rfl rfl (by decide) (by decide) q2 (fun _ h9 => h9) eb24 dX6_parts_54 ?_
      refine lv_iconst (v := 2) hx hb dX6_parts_57 (by decide) ?_
      obtain ⟨g25, h⟩ := h
      obtain ⟨g26, h⟩ := h
      refine xr_lald hx hb hK hh g25 g26 dX6_parts_58 ?_
      refine lv_lsub hx hb dX6_parts_59 ?_
      refine lv_aload_n hx hb dX6_parts_60 rfl (lv_at hl 0 rfl) ?_
      obtain ⟨g27, h⟩ := h
      obtain ⟨b28, eb28, h⟩ := h
      refine xr_getR (ci := 6) (C := RX6) (T := TX6) (N := 17) hx hb hL6 hown hK hh g27 (by decide) rfl 15 135 rfl rfl (by decide) (by decide) q2 (fun _ h9 => h9) eb28 dX6_parts_61 ?_
      refine lv_iconst (v := 5) hx hb dX6_parts_64 (by decide) ?_
      obtain ⟨g29, h⟩ := h
      obtain ⟨g30, h⟩ := h
      refine xr_lald hx hb hK hh g29 g30 dX6_parts_65 ?_
      refine lv_ladd hx hb dX6_parts_66 ?_
      refine lv_aload_n hx hb dX6_parts_67 rfl (lv_at hl 0 rfl) ?_
      obtain ⟨g31, h⟩ := h
      obtain ⟨b32, eb32, h⟩ := h
      refine xr_getR (ci := 6) (C := RX6) (T := TX6) (N := 17) hx hb hL6 hown hK hh g31 (by decide) rfl 15 135 rfl rfl (by decide) (by decide) q2 (fun _ h9 => h9) eb32 dX6_parts_68 ?_
      refine lv_iconst (v := 4) hx hb dX6_parts_71 (by decide) ?_
      obtain ⟨g33, h⟩ := h
      obtain ⟨g34, h⟩ := h
      refine xr_lald hx hb hK hh g33 g34 dX6_parts_72 ?_
      refine lv_lsub hx hb dX6_parts_73 ?_
      refine lv_ldc2 hx hb hown q4 dX6_parts_74 ?_
      refine lv_ldiv hx hb dX6_parts_77 (by decide) ?_
      refine lv_ladd hx hb dX6_parts_78 ?_
      refine lv_aload_n hx hb dX6_parts_79 rfl (lv_at hl 0 rfl) ?_
      obtain ⟨g35, h⟩ := h
      obtain ⟨b36, eb36, h⟩ := h
      refine xr_getR (ci := 6) (C := RX6) (T := TX6) (N := 17) hx hb hL6 hown hK hh g35 (by decide) rfl 15 135 rfl rfl (by decide) (by decide) q2 (fun _ h9 => h9) eb36 dX6_parts_80 ?_
      refine lv_bipush (v := 7) hx hb dX6_parts_83 (by decide) ?_
      obtain ⟨g37, h⟩ := h
      obtain ⟨g38, h⟩ := h
      refine xr_lald hx hb hK hh g37 g38 dX6_parts_85 ?_
      refine lv_aload_n hx hb dX6_parts_86 rfl (lv_at hl 0 rfl) ?_
      obtain ⟨g39, h⟩ := h
      obtain ⟨b40, eb40, h⟩ := h
      refine xr_getR (ci := 6) (C := RX6) (T := TX6) (N := 17) hx hb hL6 hown hK hh g39 (by decide) rfl 15 135 rfl rfl (by decide) (by decide) q2 (fun _ h9 => h9) eb40 dX6_parts_87 ?_
      refine lv_bipush (v := 6) hx hb dX6_parts_90 (by decide) ?_
      obtain ⟨g41, h⟩ := h
      obtain ⟨g42, h⟩ := h
      refine xr_lald hx hb hK hh g41 g42 dX6_parts_92 ?_
      refine lv_lsub hx hb dX6_parts_93 ?_
      refine lv_aload_n hx hb dX6_parts_94 rfl (lv_at hl 0 rfl) ?_
      obtain ⟨g43, h⟩ := h
      obtain ⟨b44, eb44, h⟩ := h
      refine xr_getR (ci := 6) (C := RX6) (T := TX6) (N := 17) hx hb hL6 hown hK hh g43 (by decide) rfl 15 135 rfl rfl (by decide) (by decide) q2 (fun _ h9 => h9) eb44 dX6_parts_95 ?_
      refine lv_bipush (v := 9) hx hb dX6_parts_98 (by decide) ?_
      obtain ⟨g45, h⟩ := h
      obtain ⟨g46, h⟩ := h
      refine xr_lald hx hb hK hh g45 g46 dX6_parts_100 ?_
      refine lv_ladd hx hb dX6_parts_101 ?_
      refine lv_aload_n hx hb dX6_parts_102 rfl (lv_at hl 0 rfl) ?_
      obtain ⟨g47, h⟩ := h
      obtain ⟨b48, eb48, h⟩ := h
      refine xr_getR (ci := 6) (C := RX6) (T := TX6) (N := 17) hx hb hL6 hown hK hh g47 (by decide) rfl 15 135 rfl rfl (by decide) (by decide) q2 (fun _ h9 => h9) eb48 dX6_parts_103 ?_
      refine lv_bipush (v := 8) hx hb dX6_parts_106 (by decide) ?_
      obtain ⟨g49, h⟩ := h
      obtain ⟨g50, h⟩ := h
      refine xr_lald hx hb hK hh g49 g50 dX6_parts_108 ?_
      refine lv_lsub hx hb dX6_parts_109 ?_
      refine lv_ldc2 hx hb hown q5 dX6_parts_110 ?_
      refine lv_ldiv hx hb dX6_parts_113 (by decide) ?_
      refine lv_ladd hx hb dX6_parts_114 ?_
      refine lv_topl (fun x51 ex51 => ?_)
      replace h := h x51 ex51
      refine lv_lstore_n (lv' := [(3, .long x51), (0, .ref a0), (1, .int p1), (2, .int p2)]) hx hb dX6_parts_115 rfl hl (by decide) rfl (fun ls hl => ?_)
      refine lv_lload_n hx hb dX6_parts_116 rfl (lv_at hl 0 rfl) ?_
      refine lv_l2i hx hb dX6_parts_117 rfl ?_
      exact (xe_i hx hb hr hlocks hbase hh hK hX hS h (Nat.le_of_ble_eq_true rfl) (Nat.le_of_ble_eq_true rfl) dX6_parts_118)
    · replace h := h.2 c7
      refine lv_iconst (v := 0) hx hb dX6_parts_22 (by decide) ?_
      exact (xe_i hx hb hr hlocks hbase hh hK hX hS h (Nat.le_of_ble_eq_true rfl) (Nat.le_of_ble_eq_true rfl) dX6_parts_23)
  · replace h := h.2 c3
    refine lv_iconst (v := 0) hx hb dX6_parts_11 (by decide) ?_
    refine lv_goto (tgt := 16) hx hb dX6_parts_12 (by decide) ?_
    obtain ⟨g52, h⟩ := h
    refine xc_i (va_runV (As := [.int (0 : Int32)]) (rest := []) ⟨hx, hb, hml, hown, hts⟩ (mt_X6_can l G base h) (cwV 1 hts gX6_parts_X6_can rfl rfl rfl (by decide +kernel) ⟨Nat.le_of_ble_eq_true rfl, Nat.le_of_ble_eq_true rfl⟩) (xp_V hbase hh hK hX hS (ci := 6) g52 (by decide) rfl) rfl rfl hl.1 rfl (lv_room (Nat.le_of_ble_eq_true rfl)) dX6_parts_16 ⟨Nat.le_of_ble_eq_true rfl, Nat.le_of_ble_eq_true rfl⟩) hS (fun r53 m54 H locs h hh hS => ?_)
    refine lv_if_ne (tgt := 24) hx hb dX6_parts_19 (by decide) (fun c55 => ?_) (fun c55 => ?_)
    · replace h := h.1 c55
      refine lv_aload_n hx hb dX6_parts_24 rfl (lv_at hl 0 rfl) ?_
      refine lv_iload_n hx hb dX6_parts_25 rfl (lv_at hl 1 rfl) ?_
      refine lv_iload_n hx hb dX6_parts_26 rfl (lv_at hl 2 rfl) ?_
      obtain ⟨g56, h⟩ := h
      refine xc_v (va_runV (As := [.int p1, .int p2]) (rest := []) ⟨hx, hb, hml, hown, hts⟩ (mt_X6_takeApart l G base h) (cwV 2 hts gX6_parts_X6_takeApart rfl rfl rfl (by decide +kernel) ⟨Nat.le_of_ble_eq_true rfl, Nat.le_of_ble_eq_true rfl⟩) (xp_V hbase hh hK hX hS (ci := 6) g56 (by decide) rfl) rfl rfl hl.1 rfl (lv_room (Nat.le_of_ble_eq_true rfl)) dX6_parts_27 ⟨Nat.le_of_ble_eq_true rfl, Nat.le_of_ble_eq_true rfl⟩) hS (fun m58 H locs h hh hS => ?_)
      refine lv_aload_n hx hb dX6_parts_30 rfl (lv_at hl 0 rfl) ?_
      obtain ⟨g59, h⟩ := h
      obtain ⟨b60, eb60, h⟩ := h
      refine xr_getR (ci := 6) (C := RX6) (T := TX6) (N := 17) hx hb hL6 hown hK hh g59 (by decide) rfl 15 135 rfl rfl (by decide) (by decide) q2 (fun _ h9 => h9) eb60 dX6_parts_31 ?_
      refine lv_iconst (v := 1) hx hb dX6_parts_34 (by decide) ?_
      obtain ⟨g61, h⟩ := h
      obtain ⟨g62, h⟩ := h
      refine xr_lald hx hb hK hh g61 g62 dX6_parts_35 ?_
      refine lv_aload_n hx hb dX6_parts_36 rfl (lv_at hl 0 rfl) ?_
      obtain ⟨g63, h⟩ := h
      obtain ⟨b64, eb64, h⟩ := h
      refine xr_getR (ci := 6) (C := RX6) (T := TX6) (N := 17) hx hb hL6 hown hK hh g63 (by decide) rfl 15 135 rfl rfl (by decide) (by decide) q2 (fun _ h9 => h9) eb64 dX6_parts_37 ?_
      refine lv_iconst (v := 0) hx hb dX6_parts_40 (by decide) ?_
      obtain ⟨g65, h⟩ := h
      obtain ⟨g66, h⟩ := h
      refine xr_lald hx hb hK hh g65 g66 dX6_parts_41 ?_
      refine lv_lsub hx hb dX6_parts_42 ?_
      refine lv_ldc2 hx hb hown q3 dX6_parts_43 ?_
      refine lv_ldiv hx hb dX6_parts_46 (by decide) ?_
      refine lv_aload_n hx hb dX6_parts_47 rfl (lv_at hl 0 rfl) ?_
      obtain ⟨g67, h⟩ := h
      obtain ⟨b68, eb68, h⟩ := h
      refine xr_getR (ci := 6) (C := RX6) (T := TX6) (N := 17) hx hb hL6 hown hK hh g67 (by decide) rfl 15 135 rfl rfl (by decide) (by decide) q2 (fun _ h9 => h9) eb68 dX6_parts_48 ?_
      refine lv_iconst (v := 3) hx hb dX6_parts_51 (by decide) ?_
      obtain ⟨g69, h⟩ := h
      obtain ⟨g70, h⟩ := h
      refine xr_lald hx hb hK hh g69 g70 dX6_parts_52 ?_
      refine lv_aload_n hx hb dX6_parts_53 rfl (lv_at hl 0 rfl) ?_
      obtain ⟨g71, h⟩ := h
      obtain ⟨b72, eb72, h⟩ := h
      refine xr_getR (ci := 6) (C := RX6) (T := TX6) (N := 17) hx hb hL6 hown hK hh g71 (by decide) rfl 15 135 rfl rfl (by decide) (by decide) q2 (fun _ h9 => h9) eb72 dX6_parts_54 ?_
      refine lv_iconst (v := 2) hx hb dX6_parts_57 (by decide) ?_
      obtain ⟨g73, h⟩ := h
      obtain ⟨g74, h⟩ := h
      refine xr_lald hx hb hK hh g73 g74 dX6_parts_58 ?_
      refine lv_lsub hx hb dX6_parts_59 ?_
      refine lv_aload_n hx hb dX6_parts_60 rfl (lv_at hl 0 rfl) ?_
      obtain ⟨g75, h⟩ := h
      obtain ⟨b76, eb76, h⟩ := h
      refine xr_getR (ci := 6) (C := RX6) (T := TX6) (N := 17) hx hb hL6 hown hK hh g75 (by decide) rfl 15 135 rfl rfl (by decide) (by decide) q2 (fun _ h9 => h9) eb76 dX6_parts_61 ?_
      refine lv_iconst (v := 5) hx hb dX6_parts_64 (by decide) ?_
      obtain ⟨g77, h⟩ := h
      obtain ⟨g78, h⟩ := h
      refine xr_lald hx hb hK hh g77 g78 dX6_parts_65 ?_
      refine lv_ladd hx hb dX6_parts_66 ?_
      refine lv_aload_n hx hb dX6_parts_67 rfl (lv_at hl 0 rfl) ?_
      obtain ⟨g79, h⟩ := h
      obtain ⟨b80, eb80, h⟩ := h
      refine xr_getR (ci := 6) (C := RX6) (T := TX6) (N := 17) hx hb hL6 hown hK hh g79 (by decide) rfl 15 135 rfl rfl (by decide) (by decide) q2 (fun _ h9 => h9) eb80 dX6_parts_68 ?_
      refine lv_iconst (v := 4) hx hb dX6_parts_71 (by decide) ?_
      obtain ⟨g81, h⟩ := h
      obtain ⟨g82, h⟩ := h
      refine xr_lald hx hb hK hh g81 g82 dX6_parts_72 ?_
      refine lv_lsub hx hb dX6_parts_73 ?_
      refine lv_ldc2 hx hb hown q4 dX6_parts_74 ?_
      refine lv_ldiv hx hb dX6_parts_77 (by decide) ?_
      refine lv_ladd hx hb dX6_parts_78 ?_
      refine lv_aload_n hx hb dX6_parts_79 rfl (lv_at hl 0 rfl) ?_
      obtain ⟨g83, h⟩ := h
      obtain ⟨b84, eb84, h⟩ := h
      refine xr_getR (ci := 6) (C := RX6) (T := TX6) (N := 17) hx hb hL6 hown hK hh g83 (by decide) rfl 15 135 rfl rfl (by decide) (by decide) q2 (fun _ h9 => h9) eb84 dX6_parts_80 ?_
      refine lv_bipush (v := 7) hx hb dX6_parts_83 (by decide) ?_
      obtain ⟨g85, h⟩ := h
      obtain ⟨g86, h⟩ := h
      refine xr_lald hx hb hK hh g85 g86 dX6_parts_85 ?_
      refine lv_aload_n hx hb dX6_parts_86 rfl (lv_at hl 0 rfl) ?_
      obtain ⟨g87, h⟩ := h
      obtain ⟨b88, eb88, h⟩ := h
      refine xr_getR (ci := 6) (C := RX6) (T := TX6) (N := 17) hx hb hL6 hown hK hh g87 (by decide) rfl 15 135 rfl rfl (by decide) (by decide) q2 (fun _ h9 => h9) eb88 dX6_parts_87 ?_
      refine lv_bipush (v := 6) hx hb dX6_parts_90 (by decide) ?_
      obtain ⟨g89, h⟩ := h
      obtain ⟨g90, h⟩ := h
      refine xr_lald hx hb hK hh g89 g90 dX6_parts_92 ?_
      refine lv_lsub hx hb dX6_parts_93 ?_
      refine lv_aload_n hx hb dX6_parts_94 rfl (lv_at hl 0 rfl) ?_
      obtain ⟨g91, h⟩ := h
      obtain ⟨b92, eb92, h⟩ := h
      refine xr_getR (ci := 6) (C := RX6) (T := TX6) (N := 17) hx hb hL6 hown hK hh g91 (by decide) rfl 15 135 rfl rfl (by decide) (by decide) q2 (fun _ h9 => h9) eb92 dX6_parts_95 ?_
      refine lv_bipush (v := 9) hx hb dX6_parts_98 (by decide) ?_
      obtain ⟨g93, h⟩ := h
      obtain ⟨g94, h⟩ := h
      refine xr_lald hx hb hK hh g93 g94 dX6_parts_100 ?_
      refine lv_ladd hx hb dX6_parts_101 ?_
      refine lv_aload_n hx hb dX6_parts_102 rfl (lv_at hl 0 rfl) ?_
      obtain ⟨g95, h⟩ := h
      obtain ⟨b96, eb96, h⟩ := h
      refine xr_getR (ci := 6) (C := RX6) (T := TX6) (N := 17) hx hb hL6 hown hK hh g95 (by decide) rfl 15 135 rfl rfl (by decide) (by decide) q2 (fun _ h9 => h9) eb96 dX6_parts_103 ?_
      refine lv_bipush (v := 8) hx hb dX6_parts_106 (by decide) ?_
      obtain ⟨g97, h⟩ := h
      obtain ⟨g98, h⟩ := h
      refine xr_lald hx hb hK hh g97 g98 dX6_parts_108 ?_
      refine lv_lsub hx hb dX6_parts_109 ?_
      refine lv_ldc2 hx hb hown q5 dX6_parts_110 ?_
      refine lv_ldiv hx hb dX6_parts_113 (by decide) ?_
      refine lv_ladd hx hb dX6_parts_114 ?_
      refine lv_topl (fun x99 ex99 => ?_)
      replace h := h x99 ex99
      refine lv_lstore_n (lv' := [(3, .long x99), (0, .ref a0), (1, .int p1), (2, .int p2)]) hx hb dX6_parts_115 rfl hl (by decide) rfl (fun ls hl => ?_)
      refine lv_lload_n hx hb dX6_parts_116 rfl (lv_at hl 0 rfl) ?_
      refine lv_l2i hx hb dX6_parts_117 rfl ?_
      exact (xe_i hx hb hr hlocks hbase hh hK hX hS h (Nat.le_of_ble_eq_true rfl) (Nat.le_of_ble_eq_true rfl) dX6_parts_118)
    · replace h := h.2 c55
      refine lv_iconst (v := 0) hx hb dX6_parts_22 (by decide) ?_
      exact (xe_i hx hb hr hlocks hbase hh hK hX hS h (Nat.le_of_ble_eq_true rfl) (Nat.le_of_ble_eq_true rfl) dX6_parts_23)

set_option maxHeartbeats 4000000 in
set_option maxRecDepth 100000 in
theorem bk_X6_knows_11 {p : Program} {l : Launch} {e : Env} {s : State} {m : MethodId} {args : Array Value} {below : List Frame} {meth : Method} {c : Code} {G : GG} {base : Nat} (C0 : BC p s m args meth c G base RX6 cX6_knows 6 (some .boolean) wsX6_knows) {Q : Int32 → MM → Prop} : ∀ (n : Nat) (l0 : Nat) (l3 : Int32) (l4 : Int32) (m0 : MM) (H : Heap) (locs : List Loc) (ls : Array Slot), wp_X6_knows_11 Q n l0 l3 l4 m0 → hp G (xA base) m0 H → va_S (xA base) s.heap H locs → lv_has ls 6 [(0, .ref l0), (3, .int l3), (4, .int l4)] → W p l e ({ frames := 2, cells := 0, slots := 0, locals := 65 } : Room) s m args below meth c H locs 0 0 (MQ below (va_Qi Q (HB G base) (xA base)) args s 0 0 (xA base)) (F0 m 11 ls []) := by
  obtain ⟨hx, hb, hr, hml, hown, hts, hlocks, hK, hbase, hX⟩ := id C0
  intro n
  induction n with
  | zero =>
    intro l0 l3 l4 m0 H locs ls h
    unfold wp_X6_knows_11 at h
    exact h.elim
  | succ n ih =>
    intro l0 l3 l4 m0 H locs ls h hh hS hl
    unfold wp_X6_knows_11 at h
    have hL6 : ∀ w ∈ u_ws RX6 TX6 17, w.before _ s = true := fun w h9 => hts w (List.mem_cons_of_mem _ (List.mem_append_right _ (h9)))
    have q2 : (Cond.fieldLink RX6 28 "RollupStoreModel" "part" "[J").before _ s = true := hts _ (List.mem_cons_of_mem _ (List.mem_append_left _ (List.mem_of_getElem? (i := 0) rfl)))
    refine lv_iload hx hb dX6_knows_11 (lv_at hl 2 rfl) ?_
    refine lv_iconst (v := 5) hx hb dX6_knows_13 (by decide) ?_
    refine lv_icmp_ge (tgt := 97) hx hb dX6_knows_14 (by decide) (fun c6 => ?_) (fun c6 => ?_)
    · replace h := h.1 c6
      refine lv_iload_n hx hb dX6_knows_97 rfl (lv_at hl 1 rfl) ?_
      exact (xe_z hx hb hr hlocks hbase hh hK hX hS h.1 h.2 (Nat.le_of_ble_eq_true rfl) (Nat.le_of_ble_eq_true rfl) dX6_knows_98)
    · replace h := h.2 c6
      refine lv_iload hx hb dX6_knows_17 (lv_at hl 2 rfl) ?_
      refine lv_if_ne (tgt := 26) hx hb dX6_knows_19 (by decide) (fun c7 => ?_) (fun c7 => ?_)
      · replace h := h.1 c7
        refine lv_iload hx hb dX6_knows_26 (lv_at hl 2 rfl) ?_
        refine lv_iconst (v := 3) hx hb dX6_knows_28 (by decide) ?_
        refine lv_icmp_ge (tgt := 36) hx hb dX6_knows_29 (by decide) (fun c8 => ?_) (fun c8 => ?_)
        · replace h := h.1 c8
          refine lv_iconst (v := 1) hx hb dX6_knows_36 (by decide) ?_
          refine lv_topi (fun x9 ex9 => ?_)
          replace h := h x9 ex9
          refine lv_istore (lv' := [(5, .int x9), (0, .ref l0), (3, .int l3), (4, .int l4)]) hx hb dX6_knows_37 hl (by decide) rfl (fun ls hl => ?_)
          refine lv_iload_n hx hb dX6_knows_39 rfl (lv_at hl 2 rfl) ?_
          refine lv_if_eq (tgt := 89) hx hb dX6_knows_40 (by decide) (fun c10 => ?_) (fun c10 => ?_)
          · replace h := h.1 c10
            refine lv_iconst (v := 0) hx hb dX6_knows_89 (by decide) ?_
            refine lv_topi (fun x11 ex11 => ?_)
            replace h := h x11 ex11
            refine lv_istore_n (lv' := [(3, .int x11), (5, .int x9), (0, .ref l0), (4, .int l4)]) hx hb dX6_knows_90 rfl hl (by decide) rfl (fun ls hl => ?_)
            obtain ⟨x12, ex12⟩ : ∃ y : Int32, y = l4 + 1 := ⟨_, rfl⟩
            replace h := h x12 ex12
            refine lv_iinc (v := x12) (lv' := [(4, .int x12), (3, .int x11), (5, .int x9), (0, .ref l0)]) hx hb dX6_knows_91 hl (k := 3) rfl (by rw [ex12]; rfl) (by decide) rfl (fun ls hl => ?_)
            refine lv_goto (tgt := 11) hx hb dX6_knows_94 (by decide) ?_
            exact ih _ _ _ _ _ _ _ h hh hS (lv_sub hl [3, 1, 0] rfl)
          · replace h := h.2 c10
            refine lv_aload_n hx hb dX6_knows_43 rfl (lv_at hl 1 rfl) ?_
            obtain ⟨g13, h⟩ := h
            obtain ⟨b14, eb14, h⟩ := h
            refine xr_getR (ci := 6) (C := RX6) (T := TX6) (N := 17) hx hb hL6 hown hK hh g13 (by decide) rfl 15 135 rfl rfl (by decide) (by decide) q2 (fun _ h9 => h9) eb14 dX6_knows_44 ?_
            refine lv_iconst (v := 2) hx hb dX6_knows_47 (by decide) ?_
            refine lv_iload hx hb dX6_knows_48 (lv_at hl 3 rfl) ?_
            refine lv_imul hx hb dX6_knows_50 ?_
            obtain ⟨g15, h⟩ := h
            obtain ⟨g16, h⟩ := h
            refine xr_lald hx hb hK hh g15 g16 dX6_knows_51 ?_
            refine lv_aload_n hx hb dX6_knows_52 rfl (lv_at hl 1 rfl) ?_
            obtain ⟨g17, h⟩ := h
            obtain ⟨b18, eb18, h⟩ := h
            refine xr_getR (ci := 6) (C := RX6) (T := TX6) (N := 17) hx hb hL6 hown hK hh g17 (by decide) rfl 15 135 rfl rfl (by decide) (by decide) q2 (fun _ h9 => h9) eb18 dX6_knows_53 ?_
            refine lv_iconst (v := 2) hx hb dX6_knows_56 (by decide) ?_
            refine lv_iload hx hb dX6_knows_57 (lv_at hl 3 rfl) ?_
            refine lv_imul hx hb dX6_knows_59 ?_
            refine lv_iconst (v := 1) hx hb dX6_knows_60 (by decide) ?_
            refine lv_iadd hx hb dX6_knows_61 ?_
            obtain ⟨g19, h⟩ := h
            obtain ⟨g20, h⟩ := h
            refine xr_lald hx hb hK hh g19 g20 dX6_knows_62 ?_
            refine W.lcmp hx hb dX6_knows_63 ?_
            refine lv_if_eq (tgt := 85) hx hb dX6_knows_64 (by decide) (fun c21 => ?_) (fun c21 => ?_)
            · replace h := h.1 c21
              refine lv_iconst (v := 1) hx hb dX6_knows_85 (by decide) ?_
              refine lv_goto (tgt := 90) hx hb dX6_knows_86 (by decide) ?_
              refine lv_topi (fun x22 ex22 => ?_)
              replace h := h x22 ex22
              refine lv_istore_n (lv' := [(3, .int x22), (5, .int x9), (0, .ref l0), (4, .int l4)]) hx hb dX6_knows_90 rfl hl (by decide) rfl (fun ls hl => ?_)
              obtain ⟨x23, ex23⟩ : ∃ y : Int32, y = l4 + 1 := ⟨_, rfl⟩
              replace h := h x23 ex23
              refine lv_iinc (v := x23) (lv' := [(4, .int x23), (3, .int x22), (5, .int x9), (0, .ref l0)]) hx hb dX6_knows_91 hl (k := 3) rfl (by rw [ex23]; rfl) (by decide) rfl (fun ls hl => ?_)
              refine lv_goto (tgt := 11) hx hb dX6_knows_94 (by decide) ?_
              exact ih _ _ _ _ _ _ _ h hh hS (lv_sub hl [3, 1, 0] rfl)
            · replace h := h.2 c21
              refine lv_aload_n hx hb dX6_knows_67 rfl (lv_at hl 1 rfl) ?_
              refine lv_iload hx hb dX6_knows_68 (lv_at hl 0 rfl) ?_
              refine lv_aload_n hx hb dX6_knows_70 rfl (lv_at hl 1 rfl) ?_
              obtain ⟨g24, h⟩ := h
              obtain ⟨b25, eb25, h⟩ := h
              refine xr_getR (ci := 6) (C := RX6) (T := TX6) (N := 17) hx hb hL6 hown hK hh g24 (by decide) rfl 15 135 rfl rfl (by decide) (by decide) q2 (fun _ h9 => h9) eb25 dX6_knows_71 ?_
              refine lv_iconst (v := 2) hx hb dX6_knows_74 (by decide) ?_
              refine lv_iload hx hb dX6_knows_75 (lv_at hl 3 rfl) ?_
              refine lv_imul hx hb dX6_knows_77 ?_
              obtain ⟨g26, h⟩ := h
              obtain ⟨g27, h⟩ := h
              refine xr_lald hx hb hK hh g26 g27 dX6_knows_78 ?_
              obtain ⟨g28, h⟩ := h
              refine xc_i (va_runV (As := [.int x9, .long (mAJ m0 b25 ((2 : Int32) * l4).toNatClampNeg)]) (rest := []) ⟨hx, hb, hml, hown, hts⟩ (mt_X6_isGone l G base h) (cwV 2 hts gX6_knows_X6_isGone rfl rfl rfl (by decide +kernel) ⟨Nat.le_of_ble_eq_true rfl, Nat.le_of_ble_eq_true rfl⟩) (xp_V hbase hh hK hX hS (ci := 6) g28 (by decide) rfl) rfl rfl hl.1 rfl (lv_room (Nat.le_of_ble_eq_true rfl)) dX6_knows_79 ⟨Nat.le_of_ble_eq_true rfl, Nat.le_of_ble_eq_true rfl⟩) hS (fun r29 m30 H locs h hh hS => ?_)
              refine lv_if_ne (tgt := 89) hx hb dX6_knows_82 (by decide) (fun c31 => ?_) (fun c31 => ?_)
              · replace h := h.1 c31
                refine lv_iconst (v := 0) hx hb dX6_knows_89 (by decide) ?_
                refine lv_topi (fun x32 ex32 => ?_)
                replace h := h x32 ex32
                refine lv_istore_n (lv' := [(3, .int x32), (5, .int x9), (0, .ref l0), (4, .int l4)]) hx hb dX6_knows_90 rfl hl (by decide) rfl (fun ls hl => ?_)
                obtain ⟨x33, ex33⟩ : ∃ y : Int32, y = l4 + 1 := ⟨_, rfl⟩
                replace h := h x33 ex33
                refine lv_iinc (v := x33) (lv' := [(4, .int x33), (3, .int x32), (5, .int x9), (0, .ref l0)]) hx hb dX6_knows_91 hl (k := 3) rfl (by rw [ex33]; rfl) (by decide) rfl (fun ls hl => ?_)
                refine lv_goto (tgt := 11) hx hb dX6_knows_94 (by decide) ?_
                exact ih _ _ _ _ _ _ _ h hh hS (lv_sub hl [3, 1, 0] rfl)
              · replace h := h.2 c31
                refine lv_iconst (v := 1) hx hb dX6_knows_85 (by decide) ?_
                refine lv_goto (tgt := 90) hx hb dX6_knows_86 (by decide) ?_
                refine lv_topi (fun x34 ex34 => ?_)
                replace h := h x34 ex34
                refine lv_istore_n (lv' := [(3, .int x34), (5, .int x9), (0, .ref l0), (4, .int l4)]) hx hb dX6_knows_90 rfl hl (by decide) rfl (fun ls hl => ?_)
                obtain ⟨x35, ex35⟩ : ∃ y : Int32, y = l4 + 1 := ⟨_, rfl⟩
                replace h := h x35 ex35
                refine lv_iinc (v := x35) (lv' := [(4, .int x35), (3, .int x34), (5, .int x9), (0, .ref l0)]) hx hb dX6_knows_91 hl (k := 3) rfl (by rw [ex35]; rfl) (by decide) rfl (fun ls hl => ?_)
                refine lv_goto (tgt := 11) hx hb dX6_knows_94 (by decide) ?_
                exact ih _ _ _ _ _ _ _ h hh hS (lv_sub hl [3, 1, 0] rfl)
        · replace h := h.2 c8
          refine lv_iconst (v := 2) hx hb dX6_knows_32 (by decide) ?_
          refine lv_goto (tgt := 37) hx hb dX6_knows_33 (by decide) ?_
          refine lv_topi (fun x36 ex36 => ?_)
          replace h := h x36 ex36
          refine lv_istore (lv' := [(5, .int x36), (0, .ref l0), (3, .int l3), (4, .int l4)]) hx hb dX6_knows_37 hl (by decide) rfl (fun ls hl => ?_)
          refine lv_iload_n hx hb dX6_knows_39 rfl (lv_at hl 2 rfl) ?_
          refine lv_if_eq (tgt := 89) hx hb dX6_knows_40 (by decide) (fun c37 => ?_) (fun c37 => ?_)
          · replace h := h.1 c37
            refine lv_iconst (v := 0) hx hb dX6_knows_89 (by decide) ?_
            refine lv_topi (fun x38 ex38 => ?_)
            replace h := h x38 ex38
            refine lv_istore_n (lv' := [(3, .int x38), (5, .int x36), (0, .ref l0), (4, .int l4)]) hx hb dX6_knows_90 rfl hl (by decide) rfl (fun ls hl => ?_)
            obtain ⟨x39, ex39⟩ : ∃ y : Int32, y = l4 + 1 := ⟨_, rfl⟩
            replace h := h x39 ex39
            refine lv_iinc (v := x39) (lv' := [(4, .int x39), (3, .int x38), (5, .int x36), (0, .ref l0)]) hx hb dX6_knows_91 hl (k := 3) rfl (by rw [ex39]; rfl) (by decide) rfl (fun ls hl => ?_)
            refine lv_goto (tgt := 11) hx hb dX6_knows_94 (by decide) ?_
            exact ih _ _ _ _ _ _ _ h hh hS (lv_sub hl [3, 1, 0] rfl)
          · replace h := h.2 c37
            refine lv_aload_n hx hb dX6_knows_43 rfl (lv_at hl 1 rfl) ?_
            obtain ⟨g40, h⟩ := h
            obtain ⟨b41, eb41, h⟩ := h
            refine xr_getR (ci := 6) (C := RX6) (T := TX6) (N := 17) hx hb hL6 hown hK hh g40 (by decide) rfl 15 135 rfl rfl (by decide) (by decide) q2 (fun _ h9 => h9) eb41 dX6_knows_44 ?_
            refine lv_iconst (v := 2) hx hb dX6_knows_47 (by decide) ?_
            refine lv_iload hx hb dX6_knows_48 (lv_at hl 3 rfl) ?_
            refine lv_imul hx hb dX6_knows_50 ?_
            obtain ⟨g42, h⟩ := h
            obtain ⟨g43, h⟩ := h
            refine xr_lald hx hb hK hh g42 g43 dX6_knows_51 ?_
            refine lv_aload_n hx hb dX6_knows_52 rfl (lv_at hl 1 rfl) ?_
            obtain ⟨g44, h⟩ := h
            obtain ⟨b45, eb45, h⟩ := h
            refine xr_getR (ci := 6) (C := RX6) (T := TX6) (N := 17) hx hb hL6 hown hK hh g44 (by decide) rfl 15 135 rfl rfl (by decide) (by decide) q2 (fun _ h9 => h9) eb45 dX6_knows_53 ?_
            refine lv_iconst (v := 2) hx hb dX6_knows_56 (by decide) ?_
            refine lv_iload hx hb dX6_knows_57 (lv_at hl 3 rfl) ?_
            refine lv_imul hx hb dX6_knows_59 ?_
            refine lv_iconst (v := 1) hx hb dX6_knows_60 (by decide) ?_
            refine lv_iadd hx hb dX6_knows_61 ?_
            obtain ⟨g46, h⟩ := h
            obtain ⟨g47, h⟩ := h
            refine xr_lald hx hb hK hh g46 g47 dX6_knows_62 ?_
            refine W.lcmp hx hb dX6_knows_63 ?_
            refine lv_if_eq (tgt := 85) hx hb dX6_knows_64 (by decide) (fun c48 => ?_) (fun c48 => ?_)
            · replace h := h.1 c48
              refine lv_iconst (v := 1) hx hb dX6_knows_85 (by decide) ?_
              refine lv_goto (tgt := 90) hx hb dX6_knows_86 (by decide) ?_
              refine lv_topi (fun x49 ex49 => ?_)
              replace h := h x49 ex49
              refine lv_istore_n (lv' := [(3, .int x49), (5, .int x36), (0, .ref l0), (4, .int l4)]) hx hb dX6_knows_90 rfl hl (by decide) rfl (fun ls hl => ?_)
              obtain ⟨x50, ex50⟩ : ∃ y : Int32, y = l4 + 1 := ⟨_, rfl⟩
              replace h := h x50 ex50
              refine lv_iinc (v := x50) (lv' := [(4, .int x50), (3, .int x49), (5, .int x36), (0, .ref l0)]) hx hb dX6_knows_91 hl (k := 3) rfl (by rw [ex50]; rfl) (by decide) rfl (fun ls hl => ?_)
              refine lv_goto (tgt := 11) hx hb dX6_knows_94 (by decide) ?_
              exact ih _ _ _ _ _ _ _ h hh hS (lv_sub hl [3, 1, 0] rfl)
            · replace h := h.2 c48
              refine lv_aload_n hx hb dX6_knows_67 rfl (lv_at hl 1 rfl) ?_
              refine lv_iload hx hb dX6_knows_68 (lv_at hl 0 rfl) ?_
              refine lv_aload_n hx hb dX6_knows_70 rfl (lv_at hl 1 rfl) ?_
              obtain ⟨g51, h⟩ := h
              obtain ⟨b52, eb52, h⟩ := h
              refine xr_getR (ci := 6) (C := RX6) (T := TX6) (N := 17) hx hb hL6 hown hK hh g51 (by decide) rfl 15 135 rfl rfl (by decide) (by decide) q2 (fun _ h9 => h9) eb52 dX6_knows_71 ?_
              refine lv_iconst (v := 2) hx hb dX6_knows_74 (by decide) ?_
              refine lv_iload hx hb dX6_knows_75 (lv_at hl 3 rfl) ?_
              refine lv_imul hx hb dX6_knows_77 ?_
              obtain ⟨g53, h⟩ := h
              obtain ⟨g54, h⟩ := h
              refine xr_lald hx hb hK hh g53 g54 dX6_knows_78 ?_
              obtain ⟨g55, h⟩ := h
              refine xc_i (va_runV (As := [.int x36, .long (mAJ m0 b52 ((2 : Int32) * l4).toNatClampNeg)]) (rest := []) ⟨hx, hb, hml, hown, hts⟩ (mt_X6_isGone l G base h) (cwV 2 hts gX6_knows_X6_isGone rfl rfl rfl (by decide +kernel) ⟨Nat.le_of_ble_eq_true rfl, Nat.le_of_ble_eq_true rfl⟩) (xp_V hbase hh hK hX hS (ci := 6) g55 (by decide) rfl) rfl rfl hl.1 rfl (lv_room (Nat.le_of_ble_eq_true rfl)) dX6_knows_79 ⟨Nat.le_of_ble_eq_true rfl, Nat.le_of_ble_eq_true rfl⟩) hS (fun r56 m57 H locs h hh hS => ?_)
              refine lv_if_ne (tgt := 89) hx hb dX6_knows_82 (by decide) (fun c58 => ?_) (fun c58 => ?_)
              · replace h := h.1 c58
                refine lv_iconst (v := 0) hx hb dX6_knows_89 (by decide) ?_
                refine lv_topi (fun x59 ex59 => ?_)
                replace h := h x59 ex59
                refine lv_istore_n (lv' := [(3, .int x59), (5, .int x36), (0, .ref l0), (4, .int l4)]) hx hb dX6_knows_90 rfl hl (by decide) rfl (fun ls hl => ?_)
                obtain ⟨x60, ex60⟩ : ∃ y : Int32, y = l4 + 1 := ⟨_, rfl⟩
                replace h := h x60 ex60
                refine lv_iinc (v := x60) (lv' := [(4, .int x60), (3, .int x59), (5, .int x36), (0, .ref l0)]) hx hb dX6_knows_91 hl (k := 3) rfl (by rw [ex60]; rfl) (by decide) rfl (fun ls hl => ?_)
                refine lv_goto (tgt := 11) hx hb dX6_knows_94 (by decide) ?_
                exact ih _ _ _ _ _ _ _ h hh hS (lv_sub hl [3, 1, 0] rfl)
              · replace h := h.2 c58
                refine lv_iconst (v := 1) hx hb dX6_knows_85 (by decide) ?_
                refine lv_goto (tgt := 90) hx hb dX6_knows_86 (by decide) ?_
                refine lv_topi (fun x61 ex61 => ?_)
                replace h := h x61 ex61
                refine lv_istore_n (lv' := [(3, .int x61), (5, .int x36), (0, .ref l0), (4, .int l4)]) hx hb dX6_knows_90 rfl hl (by decide) rfl (fun ls hl => ?_)
                obtain ⟨x62, ex62⟩ : ∃ y : Int32, y = l4 + 1 := ⟨_, rfl⟩
                replace h := h x62 ex62
                refine lv_iinc (v := x62) (lv' := [(4, .int x62), (3, .int x61), (5, .int x36), (0, .ref l0)]) hx hb dX6_knows_91 hl (k := 3) rfl (by rw [ex62]; rfl) (by decide) rfl (fun ls hl => ?_)
                refine lv_goto (tgt := 11) hx hb dX6_knows_94 (by decide) ?_
                exact ih _ _ _ _ _ _ _ h hh hS (lv_sub hl [3, 1, 0] rfl)
      · replace h := h.2 c7
        refine lv_iconst (v := 3) hx hb dX6_knows_22 (by decide) ?_
        refine lv_goto (tgt := 37) hx hb dX6_knows_23 (by decide) ?_
        refine lv_topi (fun x63 ex63 => ?_)
        replace h := h x63 ex63
        refine lv_istore (lv' := [(5, .int x63), (0, .ref l0), (3, .int l3), (4, .int l4)]) hx hb dX6_knows_37 hl (by decide) rfl (fun ls hl => ?_)
        refine lv_iload_n hx hb dX6_knows_39 rfl (lv_at hl 2 rfl) ?_
        refine lv_if_eq (tgt := 89) hx hb dX6_knows_40 (by decide) (fun c64 => ?_) (fun c64 => ?_)
        · replace h := h.1 c64
          refine lv_iconst (v := 0) hx hb dX6_knows_89 (by decide) ?_
          refine lv_topi (fun x65 ex65 => ?_)
          replace h := h x65 ex65
          refine lv_istore_n (lv' := [(3, .int x65), (5, .int x63), (0, .ref l0), (4, .int l4)]) hx hb dX6_knows_90 rfl hl (by decide) rfl (fun ls hl => ?_)
          obtain ⟨x66, ex66⟩ : ∃ y : Int32, y = l4 + 1 := ⟨_, rfl⟩
          replace h := h x66 ex66
          refine lv_iinc (v := x66) (lv' := [(4, .int x66), (3, .int x65), (5, .int x63), (0, .ref l0)]) hx hb dX6_knows_91 hl (k := 3) rfl (by rw [ex66]; rfl) (by decide) rfl (fun ls hl => ?_)
          refine lv_goto (tgt := 11) hx hb dX6_knows_94 (by decide) ?_
          exact ih _ _ _ _ _ _ _ h hh hS (lv_sub hl [3, 1, 0] rfl)
        · replace h := h.2 c64
          refine lv_aload_n hx hb dX6_knows_43 rfl (lv_at hl 1 rfl) ?_
          obtain ⟨g67, h⟩ := h
          obtain ⟨b68, eb68, h⟩ := h
          refine xr_getR (ci := 6) (C := RX6) (T := TX6) (N := 17) hx hb hL6 hown hK hh g67 (by decide) rfl 15 135 rfl rfl (by decide) (by decide) q2 (fun _ h9 => h9) eb68 dX6_knows_44 ?_
          refine lv_iconst (v := 2) hx hb dX6_knows_47 (by decide) ?_
          refine lv_iload hx hb dX6_knows_48 (lv_at hl 3 rfl) ?_
          refine lv_imul hx hb dX6_knows_50 ?_
          obtain ⟨g69, h⟩ := h
          obtain ⟨g70, h⟩ := h
          refine xr_lald hx hb hK hh g69 g70 dX6_knows_51 ?_
          refine lv_aload_n hx hb dX6_knows_52 rfl (lv_at hl 1 rfl) ?_
          obtain ⟨g71, h⟩ := h
          obtain ⟨b72, eb72, h⟩ := h
          refine xr_getR (ci := 6) (C := RX6) (T := TX6) (N := 17) hx hb hL6 hown hK hh g71 (by decide) rfl 15 135 rfl rfl (by decide) (by decide) q2 (fun _ h9 => h9) eb72 dX6_knows_53 ?_
          refine lv_iconst (v := 2) hx hb dX6_knows_56 (by decide) ?_
          refine lv_iload hx hb dX6_knows_57 (lv_at hl 3 rfl) ?_
          refine lv_imul hx hb dX6_knows_59 ?_
          refine lv_iconst (v := 1) hx hb dX6_knows_60 (by decide) ?_
          refine lv_iadd hx hb dX6_knows_61 ?_
          obtain ⟨g73, h⟩ := h
          obtain ⟨g74, h⟩ := h
          refine xr_lald hx hb hK hh g73 g74 dX6_knows_62 ?_
          refine W.lcmp hx hb dX6_knows_63 ?_
          refine lv_if_eq (tgt := 85) hx hb dX6_knows_64 (by decide) (fun c75 => ?_) (fun c75 => ?_)
          · replace h := h.1 c75
            refine lv_iconst (v := 1) hx hb dX6_knows_85 (by decide) ?_
            refine lv_goto (tgt := 90) hx hb dX6_knows_86 (by decide) ?_
            refine lv_topi (fun x76 ex76 => ?_)
            replace h := h x76 ex76
            refine lv_istore_n (lv' := [(3, .int x76), (5, .int x63), (0, .ref l0), (4, .int l4)]) hx hb dX6_knows_90 rfl hl (by decide) rfl (fun ls hl => ?_)
            obtain ⟨x77, ex77⟩ : ∃ y : Int32, y = l4 + 1 := ⟨_, rfl⟩
            replace h := h x77 ex77
            refine lv_iinc (v := x77) (lv' := [(4, .int x77), (3, .int x76), (5, .int x63), (0, .ref l0)]) hx hb dX6_knows_91 hl (k := 3) rfl (by rw [ex77]; rfl) (by decide) rfl (fun ls hl => ?_)
            refine lv_goto (tgt := 11) hx hb dX6_knows_94 (by decide) ?_
            exact ih _ _ _ _ _ _ _ h hh hS (lv_sub hl [3, 1, 0] rfl)
          · replace h := h.2 c75
            refine lv_aload_n hx hb dX6_knows_67 rfl (lv_at hl 1 rfl) ?_
            refine lv_iload hx hb dX6_knows_68 (lv_at hl 0 rfl) ?_
            refine lv_aload_n hx hb dX6_knows_70 rfl (lv_at hl 1 rfl) ?_
            obtain ⟨g78, h⟩ := h
            obtain ⟨b79, eb79, h⟩ := h
            refine xr_getR (ci := 6) (C := RX6) (T := TX6) (N := 17) hx hb hL6 hown hK hh g78 (by decide) rfl 15 135 rfl rfl (by decide) (by decide) q2 (fun _ h9 => h9) eb79 dX6_knows_71 ?_
            refine lv_iconst (v := 2) hx hb dX6_knows_74 (by decide) ?_
            refine lv_iload hx hb dX6_knows_75 (lv_at hl 3 rfl) ?_
            refine lv_imul hx hb dX6_knows_77 ?_
            obtain ⟨g80, h⟩ := h
            obtain ⟨g81, h⟩ := h
            refine xr_lald hx hb hK hh g80 g81 dX6_knows_78 ?_
            obtain ⟨g82, h⟩ := h
            refine xc_i (va_runV (As := [.int x63, .long (mAJ m0 b79 ((2 : Int32) * l4).toNatClampNeg)]) (rest := []) ⟨hx, hb, hml, hown, hts⟩ (mt_X6_isGone l G base h) (cwV 2 hts gX6_knows_X6_isGone rfl rfl rfl (by decide +kernel) ⟨Nat.le_of_ble_eq_true rfl, Nat.le_of_ble_eq_true rfl⟩) (xp_V hbase hh hK hX hS (ci := 6) g82 (by decide) rfl) rfl rfl hl.1 rfl (lv_room (Nat.le_of_ble_eq_true rfl)) dX6_knows_79 ⟨Nat.le_of_ble_eq_true rfl, Nat.le_of_ble_eq_true rfl⟩) hS (fun r83 m84 H locs h hh hS => ?_)
            refine lv_if_ne (tgt := 89) hx hb dX6_knows_82 (by decide) (fun c85 => ?_) (fun c85 => ?_)
            · replace h := h.1 c85
              refine lv_iconst (v := 0) hx hb dX6_knows_89 (by decide) ?_
              refine lv_topi (fun x86 ex86 => ?_)
              replace h := h x86 ex86
              refine lv_istore_n (lv' := [(3, .int x86), (5, .int x63), (0, .ref l0), (4, .int l4)]) hx hb dX6_knows_90 rfl hl (by decide) rfl (fun ls hl => ?_)
              obtain ⟨x87, ex87⟩ : ∃ y : Int32, y = l4 + 1 := ⟨_, rfl⟩
              replace h := h x87 ex87
              refine lv_iinc (v := x87) (lv' := [(4, .int x87), (3, .int x86), (5, .int x63), (0, .ref l0)]) hx hb dX6_knows_91 hl (k := 3) rfl (by rw [ex87]; rfl) (by decide) rfl (fun ls hl => ?_)
              refine lv_goto (tgt := 11) hx hb dX6_knows_94 (by decide) ?_
              exact ih _ _ _ _ _ _ _ h hh hS (lv_sub hl [3, 1, 0] rfl)
            · replace h := h.2 c85
              refine lv_iconst (v := 1) hx hb dX6_knows_85 (by decide) ?_
              refine lv_goto (tgt := 90) hx hb dX6_knows_86 (by decide) ?_
              refine lv_topi (fun x88 ex88 => ?_)
              replace h := h x88 ex88
              refine lv_istore_n (lv' := [(3, .int x88), (5, .int x63), (0, .ref l0), (4, .int l4)]) hx hb dX6_knows_90 rfl hl (by decide) rfl (fun ls hl => ?_)
              obtain ⟨x89, ex89⟩ : ∃ y : Int32, y = l4 + 1 := ⟨_, rfl⟩
              replace h := h x89 ex89
              refine lv_iinc (v := x89) (lv' := [(4, .int x89), (3, .int x88), (5, .int x63), (0, .ref l0)]) hx hb dX6_knows_91 hl (k := 3) rfl (by rw [ex89]; rfl) (by decide) rfl (fun ls hl => ?_)
              refine lv_goto (tgt := 11) hx hb dX6_knows_94 (by decide) ?_
              exact ih _ _ _ _ _ _ _ h hh hS (lv_sub hl [3, 1, 0] rfl)

set_option maxHeartbeats 4000000 in
set_option maxRecDepth 100000 in
theorem mt_X6_knows (l : Launch) (G : GG) (base : Nat) {a0 : Nat} {p1 : Int32} {p2 : Int32} {m0 : MM} {Q : Int32 → MM → Prop} (h : wp_X6_knows a0 p1 p2 m0 Q) : Met l yX6_knows wsX6_knows ({ frames := 2, cells := 0, slots := 0, locals := 65 }) (va_Pc [.ref a0, .int p1, .int p2] (SP G base m0)) (va_Qi Q (HB G base) (xA base)) 0 0 (xA base) := by
  refine Met.ofW (cc := cX6_knows) (maxL := 6) (ret := (some .boolean)) (by decide) rfl ?_
  intro p e s m args below meth c s₁ B hml hv
  obtain ⟨rfl, hbase, hh, hK, hX⟩ := hv
  have C0 : BC p s m _ meth c G base RX6 cX6_knows 6 (some .boolean) wsX6_knows := ⟨B.exec, B.bytes, B.returns, hml, findClass_of_methodNamed B.named, atoms_spec (ws := wsX6_knows) B.pre, B.notSynchronized, hK, hbase, hX⟩
  obtain ⟨hx, hb, hr, -, hown, hts, hlocks, -, -, -⟩ := id C0
  have hS : va_S (xA base) s.heap s.heap [] := va_S.rf
  have hl := lv_entry ([.ref a0, .int p1, .int p2]) (n := 6) (Nat.le_of_ble_eq_true rfl)
  rw [lg_entry_eq]
  generalize (lg_sl ([.ref a0, .int p1, .int p2]) ++ List.replicate (6 - (lg_sl ([.ref a0, .int p1, .int p2])).length) Slot.unset).toArray = ls at hl ⊢
  have hl : lv_has ls 6 [(0, .ref a0), (1, .int p1), (2, .int p2)] := hl
  unfold wp_X6_knows at h
  refine lv_aload_n hx hb dX6_knows_0 rfl (lv_at hl 0 rfl) ?_
  refine lv_iload_n hx hb dX6_knows_1 rfl (lv_at hl 1 rfl) ?_
  refine lv_iload_n hx hb dX6_knows_2 rfl (lv_at hl 2 rfl) ?_
  obtain ⟨g1, h⟩ := h
  refine xc_v (va_runV (As := [.int p1, .int p2]) (rest := []) ⟨hx, hb, hml, hown, hts⟩ (mt_X6_takeApart l G base h) (cwV 2 hts gX6_knows_X6_takeApart rfl rfl rfl (by decide +kernel) ⟨Nat.le_of_ble_eq_true rfl, Nat.le_of_ble_eq_true rfl⟩) (xp_V hbase hh hK hX hS (ci := 6) g1 (by decide) rfl) rfl rfl hl.1 rfl (lv_room (Nat.le_of_ble_eq_true rfl)) dX6_knows_3 ⟨Nat.le_of_ble_eq_true rfl, Nat.le_of_ble_eq_true rfl⟩) hS (fun m3 H locs h hh hS => ?_)
  refine lv_iconst (v := 1) hx hb dX6_knows_6 (by decide) ?_
  refine lv_topi (fun x4 ex4 => ?_)
  replace h := h x4 ex4
  refine lv_istore_n (lv' := [(3, .int x4), (0, .ref a0), (1, .int p1), (2, .int p2)]) hx hb dX6_knows_7 rfl hl (by decide) rfl (fun ls hl => ?_)
  refine lv_iconst (v := 0) hx hb dX6_knows_8 (by decide) ?_
  refine lv_topi (fun x5 ex5 => ?_)
  replace h := h x5 ex5
  refine lv_istore (lv' := [(4, .int x5), (3, .int x4), (0, .ref a0), (1, .int p1), (2, .int p2)]) hx hb dX6_knows_9 hl (by decide) rfl (fun ls hl => ?_)
  obtain ⟨n9, h⟩ := h
  exact bk_X6_knows_11 C0  n9 _ _ _ _ _ _ _ h hh hS (lv_sub hl [2, 1, 0] rfl)

set_option maxHeartbeats 4000000 in
set_option maxRecDepth 100000 in
theorem mt_X6_isKnown (l : Launch) (G : GG) (base : Nat) {a0 : Nat} {p1 : Int32} {p2 : Int32} {m0 : MM} {Q : Int32 → MM → Prop} (h : wp_X6_isKnown a0 p1 p2 m0 Q) : Met l yX6_isKnown wsX6_isKnown ({ frames := 3, cells := 0, slots := 0, locals := 90 }) (va_Pc [.ref a0, .int p1, .int p2] (SP G base m0)) (va_Qi Q (HB G base) (xA base)) 0 0 (xA base) := by
  refine Met.ofW (cc := cX6_isKnown) (maxL := 3) (ret := (some .boolean)) (by decide) rfl ?_
  intro p e s m args below meth c s₁ B hml hv
  obtain ⟨rfl, hbase, hh, hK, hX⟩ := hv
  have C0 : BC p s m _ meth c G base RX6 cX6_isKnown 3 (some .boolean) wsX6_isKnown := ⟨B.exec, B.bytes, B.returns, hml, findClass_of_methodNamed B.named, atoms_spec (ws := wsX6_isKnown) B.pre, B.notSynchronized, hK, hbase, hX⟩
  obtain ⟨hx, hb, hr, -, hown, hts, hlocks, -, -, -⟩ := id C0
  have hS : va_S (xA base) s.heap s.heap [] := va_S.rf
  have hl := lv_entry ([.ref a0, .int p1, .int p2]) (n := 3) (Nat.le_of_ble_eq_true rfl)
  rw [lg_entry_eq]
  generalize (lg_sl ([.ref a0, .int p1, .int p2]) ++ List.replicate (3 - (lg_sl ([.ref a0, .int p1, .int p2])).length) Slot.unset).toArray = ls at hl ⊢
  have hl : lv_has ls 3 [(0, .ref a0), (1, .int p1), (2, .int p2)] := hl
  unfold wp_X6_isKnown at h
  refine lv_aload_n hx hb dX6_isKnown_0 rfl (lv_at hl 0 rfl) ?_
  refine lv_iload_n hx hb dX6_isKnown_1 rfl (lv_at hl 1 rfl) ?_
  refine lv_iload_n hx hb dX6_isKnown_2 rfl (lv_at hl 2 rfl) ?_
  refine lv_bipush (v := 60) hx hb dX6_isKnown_3 (by decide) ?_
  refine xc_i (va_runS (As := [.int p1, .int p2, .int (60 : Int32)]) (rest := [.ref a0]) ⟨hx, hb, hml, hown, hts⟩ (mt_X6_isWindow l G base h) (va_cwS 3 hts gX6_isKnown_X6_isWindow rfl rfl rfl (by decide +kernel) ⟨Nat.le_of_ble_eq_true rfl, Nat.le_of_ble_eq_true rfl⟩) (xp_S hbase hh hK hX hS) rfl rfl hl.1 rfl (lv_room (Nat.le_of_ble_eq_true rfl)) dX6_isKnown_5 ⟨Nat.le_of_ble_eq_true rfl, Nat.le_of_ble_eq_true rfl⟩) hS (fun r1 m2 H locs h hh hS => ?_)
  refine lv_if_eq (tgt := 15) hx hb dX6_isKnown_8 (by decide) (fun c3 => ?_) (fun c3 => ?_)
  · replace h := h.1 c3
    refine lv_iconst (v := 1) hx hb dX6_isKnown_15 (by decide) ?_
    obtain ⟨g4, h⟩ := h
    refine xc_i (va_runV (As := [.int (1 : Int32)]) (rest := []) ⟨hx, hb, hml, hown, hts⟩ (mt_X6_can l G base h) (cwV 1 hts gX6_isKnown_X6_can rfl rfl rfl (by decide +kernel) ⟨Nat.le_of_ble_eq_true rfl, Nat.le_of_ble_eq_true rfl⟩) (xp_V hbase hh hK hX hS (ci := 6) g4 (by decide) rfl) rfl rfl hl.1 rfl (lv_room (Nat.le_of_ble_eq_true rfl)) dX6_isKnown_16 ⟨Nat.le_of_ble_eq_true rfl, Nat.le_of_ble_eq_true rfl⟩) hS (fun r5 m6 H locs h hh hS => ?_)
    refine lv_if_eq (tgt := 35) hx hb dX6_isKnown_19 (by decide) (fun c7 => ?_) (fun c7 => ?_)
    · replace h := h.1 c7
      refine lv_iconst (v := 0) hx hb dX6_isKnown_35 (by decide) ?_
      exact (xe_z hx hb hr hlocks hbase hh hK hX hS (Or.inl rfl) h (Nat.le_of_ble_eq_true rfl) (Nat.le_of_ble_eq_true rfl) dX6_isKnown_36)
    · replace h := h.2 c7
      refine lv_aload_n hx hb dX6_isKnown_22 rfl (lv_at hl 0 rfl) ?_
      refine lv_iload_n hx hb dX6_isKnown_23 rfl (lv_at hl 1 rfl) ?_
      refine lv_iload_n hx hb dX6_isKnown_24 rfl (lv_at hl 2 rfl) ?_
      obtain ⟨g8, h⟩ := h
      refine xc_i (va_runV (As := [.int p1, .int p2]) (rest := []) ⟨hx, hb, hml, hown, hts⟩ (mt_X6_knows l G base h) (cwV 2 hts gX6_isKnown_X6_knows rfl rfl rfl (by decide +kernel) ⟨Nat.le_of_ble_eq_true rfl, Nat.le_of_ble_eq_true rfl⟩) (xp_V hbase hh hK hX hS (ci := 6) g8 (by decide) rfl) rfl rfl hl.1 rfl (lv_room (Nat.le_of_ble_eq_true rfl)) dX6_isKnown_25 ⟨Nat.le_of_ble_eq_true rfl, Nat.le_of_ble_eq_true rfl⟩) hS (fun r9 m10 H locs h hh hS => ?_)
      refine lv_if_eq (tgt := 35) hx hb dX6_isKnown_28 (by decide) (fun c11 => ?_) (fun c11 => ?_)
      · replace h := h.1 c11
        refine lv_iconst (v := 0) hx hb dX6_isKnown_35 (by decide) ?_
        exact (xe_z hx hb hr hlocks hbase hh hK hX hS (Or.inl rfl) h (Nat.le_of_ble_eq_true rfl) (Nat.le_of_ble_eq_true rfl) dX6_isKnown_36)
      · replace h := h.2 c11
        refine lv_iconst (v := 1) hx hb dX6_isKnown_31 (by decide) ?_
        refine lv_goto (tgt := 36) hx hb dX6_isKnown_32 (by decide) ?_
        exact (xe_z hx hb hr hlocks hbase hh hK hX hS (Or.inr rfl) h (Nat.le_of_ble_eq_true rfl) (Nat.le_of_ble_eq_true rfl) dX6_isKnown_36)
  · replace h := h.2 c3
    refine lv_iconst (v := 0) hx hb dX6_isKnown_11 (by decide) ?_
    refine lv_goto (tgt := 16) hx hb dX6_isKnown_12 (by decide) ?_
    obtain ⟨g12, h⟩ := h
    refine xc_i (va_runV (As := [.int (0 : Int32)]) (rest := []) ⟨hx, hb, hml, hown, hts⟩ (mt_X6_can l G base h) (cwV 1 hts gX6_isKnown_X6_can rfl rfl rfl (by decide +kernel) ⟨Nat.le_of_ble_eq_true rfl, Nat.le_of_ble_eq_true rfl⟩) (xp_V hbase hh hK hX hS (ci := 6) g12 (by decide) rfl) rfl rfl hl.1 rfl (lv_room (Nat.le_of_ble_eq_true rfl)) dX6_isKnown_16 ⟨Nat.le_of_ble_eq_true rfl, Nat.le_of_ble_eq_true rfl⟩) hS (fun r13 m14 H locs h hh hS => ?_)
    refine lv_if_eq (tgt := 35) hx hb dX6_isKnown_19 (by decide) (fun c15 => ?_) (fun c15 => ?_)
    · replace h := h.1 c15
      refine lv_iconst (v := 0) hx hb dX6_isKnown_35 (by decide) ?_
      exact (xe_z hx hb hr hlocks hbase hh hK hX hS (Or.inl rfl) h (Nat.le_of_ble_eq_true rfl) (Nat.le_of_ble_eq_true rfl) dX6_isKnown_36)
    · replace h := h.2 c15
      refine lv_aload_n hx hb dX6_isKnown_22 rfl (lv_at hl 0 rfl) ?_
      refine lv_iload_n hx hb dX6_isKnown_23 rfl (lv_at hl 1 rfl) ?_
      refine lv_iload_n hx hb dX6_isKnown_24 rfl (lv_at hl 2 rfl) ?_
      obtain ⟨g16, h⟩ := h
      refine xc_i (va_runV (As := [.int p1, .int p2]) (rest := []) ⟨hx, hb, hml, hown, hts⟩ (mt_X6_knows l G base h) (cwV 2 hts gX6_isKnown_X6_knows rfl rfl rfl (by decide +kernel) ⟨Nat.le_of_ble_eq_true rfl, Nat.le_of_ble_eq_true rfl⟩) (xp_V hbase hh hK hX hS (ci := 6) g16 (by decide) rfl) rfl rfl hl.1 rfl (lv_room (Nat.le_of_ble_eq_true rfl)) dX6_isKnown_25 ⟨Nat.le_of_ble_eq_true rfl, Nat.le_of_ble_eq_true rfl⟩) hS (fun r17 m18 H locs h hh hS => ?_)
      refine lv_if_eq (tgt := 35) hx hb dX6_isKnown_28 (by decide) (fun c19 => ?_) (fun c19 => ?_)
      · replace h := h.1 c19
        refine lv_iconst (v := 0) hx hb dX6_isKnown_35 (by decide) ?_
        exact (xe_z hx hb hr hlocks hbase hh hK hX hS (Or.inl rfl) h (Nat.le_of_ble_eq_true rfl) (Nat.le_of_ble_eq_true rfl) dX6_isKnown_36)
      · replace h := h.2 c19
        refine lv_iconst (v := 1) hx hb dX6_isKnown_31 (by decide) ?_
        refine lv_goto (tgt := 36) hx hb dX6_isKnown_32 (by decide) ?_
        exact (xe_z hx hb hr hlocks hbase hh hK hX hS (Or.inr rfl) h (Nat.le_of_ble_eq_true rfl) (Nat.le_of_ble_eq_true rfl) dX6_isKnown_36)

set_option maxHeartbeats 4000000 in
set_option maxRecDepth 100000 in
theorem bk_X6_sumOf_6 {p : Program} {l : Launch} {e : Env} {s : State} {m : MethodId} {args : Array Value} {below : List Frame} {meth : Method} {c : Code} {G : GG} {base : Nat} (C0 : BC p s m args meth c G base RX6 cX6_sumOf 7 (some .long) wsX6_sumOf) {Q : Int64 → MM → Prop} : ∀ (n : Nat) (l0 : Nat) (l1 : Int32) (l2 : Int32) (l3 : Int32) (l4 : Int64) (l6 : Int32) (m0 : MM) (H : Heap) (locs : List Loc) (ls : Array Slot), wp_X6_sumOf_6 Q n l0 l1 l2 l3 l4 l6 m0 → hp G (xA base) m0 H → va_S (xA base) s.heap H locs → lv_has ls 7 [(0, .ref l0), (1, .int l1), (2, .int l2), (3, .int l3), (4, .long l4), (6, .int l6)] → W p l e ({ frames := 0, cells := 0, slots := 0, locals := 8 } : Room) s m args below meth c H locs 0 0 (MQ below (va_Ql Q (HB G base) (xA base)) args s 0 0 (xA base)) (F0 m 6 ls []) := by
  obtain ⟨hx, hb, hr, hml, hown, hts, hlocks, hK, hbase, hX⟩ := id C0
  intro n
  induction n with
  | zero =>
    intro l0 l1 l2 l3 l4 l6 m0 H locs ls h
    unfold wp_X6_sumOf_6 at h
    exact h.elim
  | succ n ih =>
    intro l0 l1 l2 l3 l4 l6 m0 H locs ls h hh hS hl
    unfold wp_X6_sumOf_6 at h
    have hL6 : ∀ w ∈ u_ws RX6 TX6 17, w.before _ s = true := fun w h9 => hts w (List.mem_cons_of_mem _ (List.mem_append_right _ (h9)))
    have q2 : (Cond.fieldLink RX6 46 "RollupStoreModel" "all" "I").before _ s = true := hts _ (List.mem_cons_of_mem _ (List.mem_append_left _ (List.mem_of_getElem? (i := 0) rfl)))
    have q3 : (Cond.fieldLink RX6 19 "RollupStoreModel" "who" "[I").before _ s = true := hts _ (List.mem_cons_of_mem _ (List.mem_append_left _ (List.mem_of_getElem? (i := 1) rfl)))
    have q4 : (Cond.fieldLink RX6 22 "RollupStoreModel" "time" "[I").before _ s = true := hts _ (List.mem_cons_of_mem _ (List.mem_append_left _ (List.mem_of_getElem? (i := 2) rfl)))
    have q5 : (Cond.fieldLink RX6 25 "RollupStoreModel" "value" "[I").before _ s = true := hts _ (List.mem_cons_of_mem _ (List.mem_append_left _ (List.mem_of_getElem? (i := 3) rfl)))
    refine lv_iload hx hb dX6_sumOf_6 (lv_at hl 5 rfl) ?_
    refine lv_aload_n hx hb dX6_sumOf_8 rfl (lv_at hl 0 rfl) ?_
    obtain ⟨g3, h⟩ := h
    refine xr_getI (ci := 6) (C := RX6) (T := TX6) (N := 17) hx hb hL6 hown hK hh g3 (by decide) rfl 2 122 rfl rfl (by decide) (by decide) q2 (fun _ h9 => h9) dX6_sumOf_9 ?_
    refine lv_icmp_ge (tgt := 71) hx hb dX6_sumOf_12 (by decide) (fun c4 => ?_) (fun c4 => ?_)
    · replace h := h.1 c4
      refine lv_lload hx hb dX6_sumOf_71 (lv_at hl 4 rfl) ?_
      exact (xe_l hx hb hr hlocks hbase hh hK hX hS h (Nat.le_of_ble_eq_true rfl) (Nat.le_of_ble_eq_true rfl) dX6_sumOf_73)
    · replace h := h.2 c4
      refine lv_lload hx hb dX6_sumOf_15 (lv_at hl 4 rfl) ?_
      refine lv_aload_n hx hb dX6_sumOf_17 rfl (lv_at hl 0 rfl) ?_
      obtain ⟨g5, h⟩ := h
      obtain ⟨b6, eb6, h⟩ := h
      refine xr_getR (ci := 6) (C := RX6) (T := TX6) (N := 17) hx hb hL6 hown hK hh g5 (by decide) rfl 6 126 rfl rfl (by decide) (by decide) q3 (fun _ h9 => h9) eb6 dX6_sumOf_18 ?_
      refine lv_iload hx hb dX6_sumOf_21 (lv_at hl 5 rfl) ?_
      obtain ⟨g7, h⟩ := h
      obtain ⟨g8, h⟩ := h
      refine xr_iald hx hb hK hh g7 g8 dX6_sumOf_23 ?_
      refine lv_iload_n hx hb dX6_sumOf_24 rfl (lv_at hl 1 rfl) ?_
      refine lv_icmp_ne (tgt := 61) hx hb dX6_sumOf_25 (by decide) (fun c9 => ?_) (fun c9 => ?_)
      · replace h := h.1 c9
        refine lv_lconst (v := 0) hx hb dX6_sumOf_61 (by decide) ?_
        refine lv_ladd hx hb dX6_sumOf_62 ?_
        refine lv_topl (fun x10 ex10 => ?_)
        replace h := h x10 ex10
        refine lv_lstore (lv' := [(4, .long x10), (0, .ref l0), (1, .int l1), (2, .int l2), (3, .int l3), (6, .int l6)]) hx hb dX6_sumOf_63 hl (by decide) rfl (fun ls hl => ?_)
        obtain ⟨x11, ex11⟩ : ∃ y : Int32, y = l6 + 1 := ⟨_, rfl⟩
        replace h := h x11 ex11
        refine lv_iinc (v := x11) (lv' := [(6, .int x11), (4, .long x10), (0, .ref l0), (1, .int l1), (2, .int l2), (3, .int l3)]) hx hb dX6_sumOf_65 hl (k := 5) rfl (by rw [ex11]; rfl) (by decide) rfl (fun ls hl => ?_)
        refine lv_goto (tgt := 6) hx hb dX6_sumOf_68 (by decide) ?_
        exact ih _ _ _ _ _ _ _ _ _ _ h hh hS (lv_sub hl [2, 3, 4, 5, 1, 0] rfl)
      · replace h := h.2 c9
        refine lv_aload_n hx hb dX6_sumOf_28 rfl (lv_at hl 0 rfl) ?_
        obtain ⟨g12, h⟩ := h
        obtain ⟨b13, eb13, h⟩ := h
        refine xr_getR (ci := 6) (C := RX6) (T := TX6) (N := 17) hx hb hL6 hown hK hh g12 (by decide) rfl 7 127 rfl rfl (by decide) (by decide) q4 (fun _ h9 => h9) eb13 dX6_sumOf_29 ?_
        refine lv_iload hx hb dX6_sumOf_32 (lv_at hl 5 rfl) ?_
        obtain ⟨g14, h⟩ := h
        obtain ⟨g15, h⟩ := h
        refine xr_iald hx hb hK hh g14 g15 dX6_sumOf_34 ?_
        refine lv_iload_n hx hb dX6_sumOf_35 rfl (lv_at hl 2 rfl) ?_
        refine lv_icmp_lt (tgt := 61) hx hb dX6_sumOf_36 (by decide) (fun c16 => ?_) (fun c16 => ?_)
        · replace h := h.1 c16
          refine lv_lconst (v := 0) hx hb dX6_sumOf_61 (by decide) ?_
          refine lv_ladd hx hb dX6_sumOf_62 ?_
          refine lv_topl (fun x17 ex17 => ?_)
          replace h := h x17 ex17
          refine lv_lstore (lv' := [(4, .long x17), (0, .ref l0), (1, .int l1), (2, .int l2), (3, .int l3), (6, .int l6)]) hx hb dX6_sumOf_63 hl (by decide) rfl (fun ls hl => ?_)
          obtain ⟨x18, ex18⟩ : ∃ y : Int32, y = l6 + 1 := ⟨_, rfl⟩
          replace h := h x18 ex18
          refine lv_iinc (v := x18) (lv' := [(6, .int x18), (4, .long x17), (0, .ref l0), (1, .int l1), (2, .int l2), (3, .int l3)]) hx hb dX6_sumOf_65 hl (k := 5) rfl (by rw [ex18]; rfl) (by decide) rfl (fun ls hl => ?_)
          refine lv_goto (tgt := 6) hx hb dX6_sumOf_68 (by decide) ?_
          exact ih _ _ _ _ _ _ _ _ _ _ h hh hS (lv_sub hl [2, 3, 4, 5, 1, 0] rfl)
        · replace h := h.2 c16
          refine lv_aload_n hx hb dX6_sumOf_39 rfl (lv_at hl 0 rfl) ?_
          obtain ⟨g19, h⟩ := h
          obtain ⟨b20, eb20, h⟩ := h
          refine xr_getR (ci := 6) (C := RX6) (T := TX6) (N := 17) hx hb hL6 hown hK hh g19 (by decide) rfl 7 127 rfl rfl (by decide) (by decide) q4 (fun _ h9 => h9) eb20 dX6_sumOf_40 ?_
          refine lv_iload hx hb dX6_sumOf_43 (lv_at hl 5 rfl) ?_
          obtain ⟨g21, h⟩ := h
          obtain ⟨g22, h⟩ := h
          refine xr_iald hx hb hK hh g21 g22 dX6_sumOf_45 ?_
          refine lv_iload_n hx hb dX6_sumOf_46 rfl (lv_at hl 3 rfl) ?_
          refine lv_icmp_ge (tgt := 61) hx hb dX6_sumOf_47 (by decide) (fun c23 => ?_) (fun c23 => ?_)
          · replace h := h.1 c23
            refine lv_lconst (v := 0) hx hb dX6_sumOf_61 (by decide) ?_
            refine lv_ladd hx hb dX6_sumOf_62 ?_
            refine lv_topl (fun x24 ex24 => ?_)
            replace h := h x24 ex24
            refine lv_lstore (lv' := [(4, .long x24), (0, .ref l0), (1, .int l1), (2, .int l2), (3, .int l3), (6, .int l6)]) hx hb dX6_sumOf_63 hl (by decide) rfl (fun ls hl => ?_)
            obtain ⟨x25, ex25⟩ : ∃ y : Int32, y = l6 + 1 := ⟨_, rfl⟩
            replace h := h x25 ex25
            refine lv_iinc (v := x25) (lv' := [(6, .int x25), (4, .long x24), (0, .ref l0), (1, .int l1), (2, .int l2), (3, .int l3)]) hx hb dX6_sumOf_65 hl (k := 5) rfl (by rw [ex25]; rfl) (by decide) rfl (fun ls hl => ?_)
            refine lv_goto (tgt := 6) hx hb dX6_sumOf_68 (by decide) ?_
            exact ih _ _ _ _ _ _ _ _ _ _ h hh hS (lv_sub hl [2, 3, 4, 5, 1, 0] rfl)
          · replace h := h.2 c23
            refine lv_aload_n hx hb dX6_sumOf_50 rfl (lv_at hl 0 rfl) ?_
            obtain ⟨g26, h⟩ := h
            obtain ⟨b27, eb27, h⟩ := h
            refine xr_getR (ci := 6) (C := RX6) (T := TX6) (N := 17) hx hb hL6 hown hK hh g26 (by decide) rfl 8 128 rfl rfl (by decide) (by decide) q5 (fun _ h9 => h9) eb27 dX6_sumOf_51 ?_
            refine lv_iload hx hb dX6_sumOf_54 (lv_at hl 5 rfl) ?_
            obtain ⟨g28, h⟩ := h
            obtain ⟨g29, h⟩ := h
            refine xr_iald hx hb hK hh g28 g29 dX6_sumOf_56 ?_
            refine lv_i2l hx hb dX6_sumOf_57 rfl ?_
            refine lv_goto (tgt := 62) hx hb dX6_sumOf_58 (by decide) ?_
            refine lv_ladd hx hb dX6_sumOf_62 ?_
            refine lv_topl (fun x30 ex30 => ?_)
            replace h := h x30 ex30
            refine lv_lstore (lv' := [(4, .long x30), (0, .ref l0), (1, .int l1), (2, .int l2), (3, .int l3), (6, .int l6)]) hx hb dX6_sumOf_63 hl (by decide) rfl (fun ls hl => ?_)
            obtain ⟨x31, ex31⟩ : ∃ y : Int32, y = l6 + 1 := ⟨_, rfl⟩
            replace h := h x31 ex31
            refine lv_iinc (v := x31) (lv' := [(6, .int x31), (4, .long x30), (0, .ref l0), (1, .int l1), (2, .int l2), (3, .int l3)]) hx hb dX6_sumOf_65 hl (k := 5) rfl (by rw [ex31]; rfl) (by decide) rfl (fun ls hl => ?_)
            refine lv_goto (tgt := 6) hx hb dX6_sumOf_68 (by decide) ?_
            exact ih _ _ _ _ _ _ _ _ _ _ h hh hS (lv_sub hl [2, 3, 4, 5, 1, 0] rfl)

set_option maxHeartbeats 4000000 in
set_option maxRecDepth 100000 in
theorem mt_X6_sumOf (l : Launch) (G : GG) (base : Nat) {a0 : Nat} {p1 : Int32} {p2 : Int32} {p3 : Int32} {m0 : MM} {Q : Int64 → MM → Prop} (h : wp_X6_sumOf a0 p1 p2 p3 m0 Q) : Met l yX6_sumOf wsX6_sumOf ({ frames := 0, cells := 0, slots := 0, locals := 8 }) (va_Pc [.ref a0, .int p1, .int p2, .int p3] (SP G base m0)) (va_Ql Q (HB G base) (xA base)) 0 0 (xA base) := by
  refine Met.ofW (cc := cX6_sumOf) (maxL := 7) (ret := (some .long)) (by decide) rfl ?_
  intro p e s m args below meth c s₁ B hml hv
  obtain ⟨rfl, hbase, hh, hK, hX⟩ := hv
  have C0 : BC p s m _ meth c G base RX6 cX6_sumOf 7 (some .long) wsX6_sumOf := ⟨B.exec, B.bytes, B.returns, hml, findClass_of_methodNamed B.named, atoms_spec (ws := wsX6_sumOf) B.pre, B.notSynchronized, hK, hbase, hX⟩
  obtain ⟨hx, hb, hr, -, hown, hts, hlocks, -, -, -⟩ := id C0
  have hS : va_S (xA base) s.heap s.heap [] := va_S.rf
  have hl := lv_entry ([.ref a0, .int p1, .int p2, .int p3]) (n := 7) (Nat.le_of_ble_eq_true rfl)
  rw [lg_entry_eq]
  generalize (lg_sl ([.ref a0, .int p1, .int p2, .int p3]) ++ List.replicate (7 - (lg_sl ([.ref a0, .int p1, .int p2, .int p3])).length) Slot.unset).toArray = ls at hl ⊢
  have hl : lv_has ls 7 [(0, .ref a0), (1, .int p1), (2, .int p2), (3, .int p3)] := hl
  unfold wp_X6_sumOf at h
  refine lv_lconst (v := 0) hx hb dX6_sumOf_0 (by decide) ?_
  refine lv_topl (fun x1 ex1 => ?_)
  replace h := h x1 ex1
  refine lv_lstore (lv' := [(4, .long x1), (0, .ref a0), (1, .int p1), (2, .int p2), (3, .int p3)]) hx hb dX6_sumOf_1 hl (by decide) rfl (fun ls hl => ?_)
  refine lv_iconst (v := 0) hx hb dX6_sumOf_3 (by decide) ?_
  refine lv_topi (fun x2 ex2 => ?_)
  replace h := h x2 ex2
  refine lv_istore (lv' := [(6, .int x2), (4, .long x1), (0, .ref a0), (1, .int p1), (2, .int p2), (3, .int p3)]) hx hb dX6_sumOf_4 hl (by decide) rfl (fun ls hl => ?_)
  obtain ⟨n9, h⟩ := h
  exact bk_X6_sumOf_6 C0  n9 _ _ _ _ _ _ _ _ _ _ h hh hS (lv_sub hl [2, 3, 4, 5, 1, 0] rfl)

set_option maxHeartbeats 4000000 in
set_option maxRecDepth 100000 in
theorem mt_X6_total (l : Launch) (G : GG) (base : Nat) {a0 : Nat} {p1 : Int32} {p2 : Int32} {p3 : Int32} {m0 : MM} {Q : Int64 → MM → Prop} (h : wp_X6_total a0 p1 p2 p3 m0 Q) : Met l yX6_total wsX6_total ({ frames := 3, cells := 0, slots := 0, locals := 90 }) (va_Pc [.ref a0, .int p1, .int p2, .int p3] (SP G base m0)) (va_Ql Q (HB G base) (xA base)) 0 0 (xA base) := by
  refine Met.ofW (cc := cX6_total) (maxL := 4) (ret := (some .long)) (by decide) rfl ?_
  intro p e s m args below meth c s₁ B hml hv
  obtain ⟨rfl, hbase, hh, hK, hX⟩ := hv
  have C0 : BC p s m _ meth c G base RX6 cX6_total 4 (some .long) wsX6_total := ⟨B.exec, B.bytes, B.returns, hml, findClass_of_methodNamed B.named, atoms_spec (ws := wsX6_total) B.pre, B.notSynchronized, hK, hbase, hX⟩
  obtain ⟨hx, hb, hr, -, hown, hts, hlocks, -, -, -⟩ := id C0
  have hS : va_S (xA base) s.heap s.heap [] := va_S.rf
  have hl := lv_entry ([.ref a0, .int p1, .int p2, .int p3]) (n := 4) (Nat.le_of_ble_eq_true rfl)
  rw [lg_entry_eq]
  generalize (lg_sl ([.ref a0, .int p1, .int p2, .int p3]) ++ List.replicate (4 - (lg_sl ([.ref a0, .int p1, .int p2, .int p3])).length) Slot.unset).toArray = ls at hl ⊢
  have hl : lv_has ls 4 [(0, .ref a0), (1, .int p1), (2, .int p2), (3, .int p3)] := hl
  unfold wp_X6_total at h
  refine lv_aload_n hx hb dX6_total_0 rfl (lv_at hl 0 rfl) ?_
  refine lv_aload_n hx hb dX6_total_1 rfl (lv_at hl 0 rfl) ?_
  refine lv_iload_n hx hb dX6_total_2 rfl (lv_at hl 1 rfl) ?_
  obtain ⟨g1, h⟩ := h
  refine xc_i (va_runV (As := [.int p1]) (rest := [.ref a0]) ⟨hx, hb, hml, hown, hts⟩ (mt_X6_isSeries l G base h) (cwV 1 hts gX6_total_X6_isSeries rfl rfl rfl (by decide +kernel) ⟨Nat.le_of_ble_eq_true rfl, Nat.le_of_ble_eq_true rfl⟩) (xp_V hbase hh hK hX hS (ci := 6) g1 (by decide) rfl) rfl rfl hl.1 rfl (lv_room (Nat.le_of_ble_eq_true rfl)) dX6_total_3 ⟨Nat.le_of_ble_eq_true rfl, Nat.le_of_ble_eq_true rfl⟩) hS (fun r2 m3 H locs h hh hS => ?_)
  refine lv_if_ne (tgt := 13) hx hb dX6_total_6 (by decide) (fun c4 => ?_) (fun c4 => ?_)
  · replace h := h.1 c4
    refine lv_iload_n hx hb dX6_total_13 rfl (lv_at hl 2 rfl) ?_
    refine lv_iload_n hx hb dX6_total_14 rfl (lv_at hl 3 rfl) ?_
    refine lv_bipush (v := 60) hx hb dX6_total_15 (by decide) ?_
    refine xc_i (va_runS (As := [.int p2, .int p3, .int (60 : Int32)]) (rest := [.ref a0]) ⟨hx, hb, hml, hown, hts⟩ (mt_X6_isWindow l G base h) (va_cwS 3 hts gX6_total_X6_isWindow rfl rfl rfl (by decide +kernel) ⟨Nat.le_of_ble_eq_true rfl, Nat.le_of_ble_eq_true rfl⟩) (xp_S hbase hh hK hX hS) rfl rfl hl.1 rfl (lv_room (Nat.le_of_ble_eq_true rfl)) dX6_total_17 ⟨Nat.le_of_ble_eq_true rfl, Nat.le_of_ble_eq_true rfl⟩) hS (fun r5 m6 H locs h hh hS => ?_)
    refine lv_if_ne (tgt := 27) hx hb dX6_total_20 (by decide) (fun c7 => ?_) (fun c7 => ?_)
    · replace h := h.1 c7
      refine lv_aload_n hx hb dX6_total_27 rfl (lv_at hl 0 rfl) ?_
      refine lv_iload_n hx hb dX6_total_28 rfl (lv_at hl 2 rfl) ?_
      refine lv_iload_n hx hb dX6_total_29 rfl (lv_at hl 3 rfl) ?_
      obtain ⟨g8, h⟩ := h
      refine xc_i (va_runV (As := [.int p2, .int p3]) (rest := [.ref a0]) ⟨hx, hb, hml, hown, hts⟩ (mt_X6_knows l G base h) (cwV 2 hts gX6_total_X6_knows rfl rfl rfl (by decide +kernel) ⟨Nat.le_of_ble_eq_true rfl, Nat.le_of_ble_eq_true rfl⟩) (xp_V hbase hh hK hX hS (ci := 6) g8 (by decide) rfl) rfl rfl hl.1 rfl (lv_room (Nat.le_of_ble_eq_true rfl)) dX6_total_30 ⟨Nat.le_of_ble_eq_true rfl, Nat.le_of_ble_eq_true rfl⟩) hS (fun r9 m10 H locs h hh hS => ?_)
      refine lv_if_eq (tgt := 40) hx hb dX6_total_33 (by decide) (fun c11 => ?_) (fun c11 => ?_)
      · replace h := h.1 c11
        refine lv_iconst (v := 3) hx hb dX6_total_40 (by decide) ?_
        obtain ⟨g12, h⟩ := h
        refine xc_i (va_runV (As := [.int (3 : Int32)]) (rest := []) ⟨hx, hb, hml, hown, hts⟩ (mt_X6_can l G base h) (cwV 1 hts gX6_total_X6_can rfl rfl rfl (by decide +kernel) ⟨Nat.le_of_ble_eq_true rfl, Nat.le_of_ble_eq_true rfl⟩) (xp_V hbase hh hK hX hS (ci := 6) g12 (by decide) rfl) rfl rfl hl.1 rfl (lv_room (Nat.le_of_ble_eq_true rfl)) dX6_total_41 ⟨Nat.le_of_ble_eq_true rfl, Nat.le_of_ble_eq_true rfl⟩) hS (fun r13 m14 H locs h hh hS => ?_)
        refine lv_if_eq (tgt := 57) hx hb dX6_total_44 (by decide) (fun c15 => ?_) (fun c15 => ?_)
        · replace h := h.1 c15
          refine lv_lconst (v := 0) hx hb dX6_total_57 (by decide) ?_
          exact (xe_l hx hb hr hlocks hbase hh hK hX hS h (Nat.le_of_ble_eq_true rfl) (Nat.le_of_ble_eq_true rfl) dX6_total_58)
        · replace h := h.2 c15
          refine lv_aload_n hx hb dX6_total_47 rfl (lv_at hl 0 rfl) ?_
          refine lv_iload_n hx hb dX6_total_48 rfl (lv_at hl 1 rfl) ?_
          refine lv_iload_n hx hb dX6_total_49 rfl (lv_at hl 2 rfl) ?_
          refine lv_iload_n hx hb dX6_total_50 rfl (lv_at hl 3 rfl) ?_
          obtain ⟨g16, h⟩ := h
          refine xc_l (va_runV (As := [.int p1, .int p2, .int p3]) (rest := []) ⟨hx, hb, hml, hown, hts⟩ (mt_X6_sumOf l G base h) (cwV 3 hts gX6_total_X6_sumOf rfl rfl rfl (by decide +kernel) ⟨Nat.le_of_ble_eq_true rfl, Nat.le_of_ble_eq_true rfl⟩) (xp_V hbase hh hK hX hS (ci := 6) g16 (by decide) rfl) rfl rfl hl.1 rfl (lv_room (Nat.le_of_ble_eq_true rfl)) dX6_total_51 ⟨Nat.le_of_ble_eq_true rfl, Nat.le_of_ble_eq_true rfl⟩) hS (fun r17 m18 H locs h hh hS => ?_)
          refine lv_goto (tgt := 58) hx hb dX6_total_54 (by decide) ?_
          exact (xe_l hx hb hr hlocks hbase hh hK hX hS h (Nat.le_of_ble_eq_true rfl) (Nat.le_of_ble_eq_true rfl) dX6_total_58)
      · replace h := h.2 c11
        refine lv_iconst (v := 0) hx hb dX6_total_36 (by decide) ?_
        refine lv_goto (tgt := 41) hx hb dX6_total_37 (by decide) ?_
        obtain ⟨g19, h⟩ := h
        refine xc_i (va_runV (As := [.int (0 : Int32)]) (rest := []) ⟨hx, hb, hml, hown, hts⟩ (mt_X6_can l G base h) (cwV 1 hts gX6_total_X6_can rfl rfl rfl (by decide +kernel) ⟨Nat.le_of_ble_eq_true rfl, Nat.le_of_ble_eq_true rfl⟩) (xp_V hbase hh hK hX hS (ci := 6) g19 (by decide) rfl) rfl rfl hl.1 rfl (lv_room (Nat.le_of_ble_eq_true rfl)) dX6_total_41 ⟨Nat.le_of_ble_eq_true rfl, Nat.le_of_ble_eq_true rfl⟩) hS (fun r20 m21 H locs h hh hS => ?_)
        refine lv_if_eq (tgt := 57) hx hb dX6_total_44 (by decide) (fun c22 => ?_) (fun c22 => ?_)
        · replace h := h.1 c22
          refine lv_lconst (v := 0) hx hb dX6_total_57 (by decide) ?_
          exact (xe_l hx hb hr hlocks hbase hh hK hX hS h (Nat.le_of_ble_eq_true rfl) (Nat.le_of_ble_eq_true rfl) dX6_total_58)
        · replace h := h.2 c22
          refine lv_aload_n hx hb dX6_total_47 rfl (lv_at hl 0 rfl) ?_
          refine lv_iload_n hx hb dX6_total_48 rfl (lv_at hl 1 rfl) ?_
          refine lv_iload_n hx hb dX6_total_49 rfl (lv_at hl 2 rfl) ?_
          refine lv_iload_n hx hb dX6_total_50 rfl (lv_at hl 3 rfl) ?_
          obtain ⟨g23, h⟩ := h
          refine xc_l (va_runV (As := [.int p1, .int p2, .int p3]) (rest := []) ⟨hx, hb, hml, hown, hts⟩ (mt_X6_sumOf l G base h) (cwV 3 hts gX6_total_X6_sumOf rfl rfl rfl (by decide +kernel) ⟨Nat.le_of_ble_eq_true rfl, Nat.le_of_ble_eq_true rfl⟩) (xp_V hbase hh hK hX hS (ci := 6) g23 (by decide) rfl) rfl rfl hl.1 rfl (lv_room (Nat.le_of_ble_eq_true rfl)) dX6_total_51 ⟨Nat.le_of_ble_eq_true rfl, Nat.le_of_ble_eq_true rfl⟩) hS (fun r24 m25 H locs h hh hS => ?_)
          refine lv_goto (tgt := 58) hx hb dX6_total_54 (by decide) ?_
          exact (xe_l hx hb hr hlocks hbase hh hK hX hS h (Nat.le_of_ble_eq_true rfl) (Nat.le_of_ble_eq_true rfl) dX6_total_58)
    · replace h := h.2 c7
      refine lv_iconst (v := 2) hx hb dX6_total_23 (by decide) ?_
      refine lv_goto (tgt := 41) hx hb dX6_total_24 (by decide) ?_
      obtain ⟨g26, h⟩ := h
      refine xc_i (va_runV (As := [.int (2 : Int32)]) (rest := []) ⟨hx, hb, hml, hown, hts⟩ (mt_X6_can l G base h) (cwV 1 hts gX6_total_X6_can rfl rfl rfl (by decide +kernel) ⟨Nat.le_of_ble_eq_true rfl, Nat.le_of_ble_eq_true rfl⟩) (xp_V hbase hh hK hX hS (ci := 6) g26 (by decide) rfl) rfl rfl hl.1 rfl (lv_room (Nat.le_of_ble_eq_true rfl)) dX6_total_41 ⟨Nat.le_of_ble_eq_true rfl, Nat.le_of_ble_eq_true rfl⟩) hS (fun r27 m28 H locs h hh hS => ?_)
      refine lv_if_eq (tgt := 57) hx hb dX6_total_44 (by decide) (fun c29 => ?_) (fun c29 => ?_)
      · replace h := h.1 c29
        refine lv_lconst (v := 0) hx hb dX6_total_57 (by decide) ?_
        exact (xe_l hx hb hr hlocks hbase hh hK hX hS h (Nat.le_of_ble_eq_true rfl) (Nat.le_of_ble_eq_true rfl) dX6_total_58)
      · replace h := h.2 c29
        refine lv_aload_n hx hb dX6_total_47 rfl (lv_at hl 0 rfl) ?_
        refine lv_iload_n hx hb dX6_total_48 rfl (lv_at hl 1 rfl) ?_
        refine lv_iload_n hx hb dX6_total_49 rfl (lv_at hl 2 rfl) ?_
        refine lv_iload_n hx hb dX6_total_50 rfl (lv_at hl 3 rfl) ?_
        obtain ⟨g30, h⟩ := h
        refine xc_l (va_runV (As := [.int p1, .int p2, .int p3]) (rest := []) ⟨hx, hb, hml, hown, hts⟩ (mt_X6_sumOf l G base h) (cwV 3 hts gX6_total_X6_sumOf rfl rfl rfl (by decide +kernel) ⟨Nat.le_of_ble_eq_true rfl, Nat.le_of_ble_eq_true rfl⟩) (xp_V hbase hh hK hX hS (ci := 6) g30 (by decide) rfl) rfl rfl hl.1 rfl (lv_room (Nat.le_of_ble_eq_true rfl)) dX6_total_51 ⟨Nat.le_of_ble_eq_true rfl, Nat.le_of_ble_eq_true rfl⟩) hS (fun r31 m32 H locs h hh hS => ?_)
        refine lv_goto (tgt := 58) hx hb dX6_total_54 (by decide) ?_
        exact (xe_l hx hb hr hlocks hbase hh hK hX hS h (Nat.le_of_ble_eq_true rfl) (Nat.le_of_ble_eq_true rfl) dX6_total_58)
  · replace h := h.2 c4
    refine lv_iconst (v := 1) hx hb dX6_total_9 (by decide) ?_
    refine lv_goto (tgt := 41) hx hb dX6_total_10 (by decide) ?_
    obtain ⟨g33, h⟩ := h
    refine xc_i (va_runV (As := [.int (1 : Int32)]) (rest := []) ⟨hx, hb, hml, hown, hts⟩ (mt_X6_can l G base h) (cwV 1 hts gX6_total_X6_can rfl rfl rfl (by decide +kernel) ⟨Nat.le_of_ble_eq_true rfl, Nat.le_of_ble_eq_true rfl⟩) (xp_V hbase hh hK hX hS (ci := 6) g33 (by decide) rfl) rfl rfl hl.1 rfl (lv_room (Nat.le_of_ble_eq_true rfl)) dX6_total_41 ⟨Nat.le_of_ble_eq_true rfl, Nat.le_of_ble_eq_true rfl⟩) hS (fun r34 m35 H locs h hh hS => ?_)
    refine lv_if_eq (tgt := 57) hx hb dX6_total_44 (by decide) (fun c36 => ?_) (fun c36 => ?_)
    · replace h := h.1 c36
      refine lv_lconst (v := 0) hx hb dX6_total_57 (by decide) ?_
      exact (xe_l hx hb hr hlocks hbase hh hK hX hS h (Nat.le_of_ble_eq_true rfl) (Nat.le_of_ble_eq_true rfl) dX6_total_58)
    · replace h := h.2 c36
      refine lv_aload_n hx hb dX6_total_47 rfl (lv_at hl 0 rfl) ?_
      refine lv_iload_n hx hb dX6_total_48 rfl (lv_at hl 1 rfl) ?_
      refine lv_iload_n hx hb dX6_total_49 rfl (lv_at hl 2 rfl) ?_
      refine lv_iload_n hx hb dX6_total_50 rfl (lv_at hl 3 rfl) ?_
      obtain ⟨g37, h⟩ := h
      refine xc_l (va_runV (As := [.int p1, .int p2, .int p3]) (rest := []) ⟨hx, hb, hml, hown, hts⟩ (mt_X6_sumOf l G base h) (cwV 3 hts gX6_total_X6_sumOf rfl rfl rfl (by decide +kernel) ⟨Nat.le_of_ble_eq_true rfl, Nat.le_of_ble_eq_true rfl⟩) (xp_V hbase hh hK hX hS (ci := 6) g37 (by decide) rfl) rfl rfl hl.1 rfl (lv_room (Nat.le_of_ble_eq_true rfl)) dX6_total_51 ⟨Nat.le_of_ble_eq_true rfl, Nat.le_of_ble_eq_true rfl⟩) hS (fun r38 m39 H locs h hh hS => ?_)
      refine lv_goto (tgt := 58) hx hb dX6_total_54 (by decide) ?_
      exact (xe_l hx hb hr hlocks hbase hh hK hX hS h (Nat.le_of_ble_eq_true rfl) (Nat.le_of_ble_eq_true rfl) dX6_total_58)

set_option maxHeartbeats 4000000 in
set_option maxRecDepth 100000 in
theorem mt_X6_totalByPoints (l : Launch) (G : GG) (base : Nat) {a0 : Nat} {p1 : Int32} {p2 : Int32} {p3 : Int32} {m0 : MM} {Q : Int64 → MM → Prop} (h : wp_X6_totalByPoints a0 p1 p2 p3 m0 Q) : Met l yX6_totalByPoints wsX6_totalByPoints ({ frames := 1, cells := 0, slots := 0, locals := 34 }) (va_Pc [.ref a0, .int p1, .int p2, .int p3] (SP G base m0)) (va_Ql Q (HB G base) (xA base)) 0 0 (xA base) := by
  refine Met.ofW (cc := cX6_totalByPoints) (maxL := 4) (ret := (some .long)) (by decide) rfl ?_
  intro p e s m args below meth c s₁ B hml hv
  obtain ⟨rfl, hbase, hh, hK, hX⟩ := hv
  have C0 : BC p s m _ meth c G base RX6 cX6_totalByPoints 4 (some .long) wsX6_totalByPoints := ⟨B.exec, B.bytes, B.returns, hml, findClass_of_methodNamed B.named, atoms_spec (ws := wsX6_totalByPoints) B.pre, B.notSynchronized, hK, hbase, hX⟩
  obtain ⟨hx, hb, hr, -, hown, hts, hlocks, -, -, -⟩ := id C0
  have hS : va_S (xA base) s.heap s.heap [] := va_S.rf
  have hl := lv_entry ([.ref a0, .int p1, .int p2, .int p3]) (n := 4) (Nat.le_of_ble_eq_true rfl)
  rw [lg_entry_eq]
  generalize (lg_sl ([.ref a0, .int p1, .int p2, .int p3]) ++ List.replicate (4 - (lg_sl ([.ref a0, .int p1, .int p2, .int p3])).length) Slot.unset).toArray = ls at hl ⊢
  have hl : lv_has ls 4 [(0, .ref a0), (1, .int p1), (2, .int p2), (3, .int p3)] := hl
  unfold wp_X6_totalByPoints at h
  have hL6 : ∀ w ∈ u_ws RX6 TX6 17, w.before _ s = true := fun w h9 => hts w (List.mem_cons_of_mem _ (List.mem_append_right _ (h9)))
  have q2 : (Cond.fieldLink RX6 16 "RollupStoreModel" "horizon" "[I").before _ s = true := hts _ (List.mem_cons_of_mem _ (List.mem_append_left _ (List.mem_of_getElem? (i := 0) rfl)))
  refine lv_aload_n hx hb dX6_totalByPoints_0 rfl (lv_at hl 0 rfl) ?_
  refine lv_aload_n hx hb dX6_totalByPoints_1 rfl (lv_at hl 0 rfl) ?_
  refine lv_iload_n hx hb dX6_totalByPoints_2 rfl (lv_at hl 1 rfl) ?_
  obtain ⟨g1, h⟩ := h
  refine xc_i (va_runV (As := [.int p1]) (rest := [.ref a0]) ⟨hx, hb, hml, hown, hts⟩ (mt_X6_isSeries l G base h) (cwV 1 hts gX6_totalByPoints_X6_isSeries rfl rfl rfl (by decide +kernel) ⟨Nat.le_of_ble_eq_true rfl, Nat.le_of_ble_eq_true rfl⟩) (xp_V hbase hh hK hX hS (ci := 6) g1 (by decide) rfl) rfl rfl hl.1 rfl (lv_room (Nat.le_of_ble_eq_true rfl)) dX6_totalByPoints_3 ⟨Nat.le_of_ble_eq_true rfl, Nat.le_of_ble_eq_true rfl⟩) hS (fun r2 m3 H locs h hh hS => ?_)
  refine lv_if_ne (tgt := 13) hx hb dX6_totalByPoints_6 (by decide) (fun c4 => ?_) (fun c4 => ?_)
  · replace h := h.1 c4
    refine lv_iload_n hx hb dX6_totalByPoints_13 rfl (lv_at hl 2 rfl) ?_
    refine lv_iload_n hx hb dX6_totalByPoints_14 rfl (lv_at hl 3 rfl) ?_
    refine lv_bipush (v := 60) hx hb dX6_totalByPoints_15 (by decide) ?_
    refine xc_i (va_runS (As := [.int p2, .int p3, .int (60 : Int32)]) (rest := [.ref a0]) ⟨hx, hb, hml, hown, hts⟩ (mt_X6_isWindow l G base h) (va_cwS 3 hts gX6_totalByPoints_X6_isWindow rfl rfl rfl (by decide +kernel) ⟨Nat.le_of_ble_eq_true rfl, Nat.le_of_ble_eq_true rfl⟩) (xp_S hbase hh hK hX hS) rfl rfl hl.1 rfl (lv_room (Nat.le_of_ble_eq_true rfl)) dX6_totalByPoints_17 ⟨Nat.le_of_ble_eq_true rfl, Nat.le_of_ble_eq_true rfl⟩) hS (fun r5 m6 H locs h hh hS => ?_)
    refine lv_if_ne (tgt := 27) hx hb dX6_totalByPoints_20 (by decide) (fun c7 => ?_) (fun c7 => ?_)
    · replace h := h.1 c7
      refine lv_iload_n hx hb dX6_totalByPoints_27 rfl (lv_at hl 2 rfl) ?_
      refine lv_aload_n hx hb dX6_totalByPoints_28 rfl (lv_at hl 0 rfl) ?_
      obtain ⟨g8, h⟩ := h
      obtain ⟨b9, eb9, h⟩ := h
      refine xr_getR (ci := 6) (C := RX6) (T := TX6) (N := 17) hx hb hL6 hown hK hh g8 (by decide) rfl 5 125 rfl rfl (by decide) (by decide) q2 (fun _ h9 => h9) eb9 dX6_totalByPoints_29 ?_
      refine lv_iconst (v := 0) hx hb dX6_totalByPoints_32 (by decide) ?_
      obtain ⟨g10, h⟩ := h
      obtain ⟨g11, h⟩ := h
      refine xr_iald hx hb hK hh g10 g11 dX6_totalByPoints_33 ?_
      refine lv_icmp_ge (tgt := 41) hx hb dX6_totalByPoints_34 (by decide) (fun c12 => ?_) (fun c12 => ?_)
      · replace h := h.1 c12
        refine lv_iconst (v := 0) hx hb dX6_totalByPoints_41 (by decide) ?_
        obtain ⟨g13, h⟩ := h
        refine xc_i (va_runV (As := [.int (0 : Int32)]) (rest := []) ⟨hx, hb, hml, hown, hts⟩ (mt_X6_can l G base h) (cwV 1 hts gX6_totalByPoints_X6_can rfl rfl rfl (by decide +kernel) ⟨Nat.le_of_ble_eq_true rfl, Nat.le_of_ble_eq_true rfl⟩) (xp_V hbase hh hK hX hS (ci := 6) g13 (by decide) rfl) rfl rfl hl.1 rfl (lv_room (Nat.le_of_ble_eq_true rfl)) dX6_totalByPoints_42 ⟨Nat.le_of_ble_eq_true rfl, Nat.le_of_ble_eq_true rfl⟩) hS (fun r14 m15 H locs h hh hS => ?_)
        refine lv_if_eq (tgt := 58) hx hb dX6_totalByPoints_45 (by decide) (fun c16 => ?_) (fun c16 => ?_)
        · replace h := h.1 c16
          refine lv_lconst (v := 0) hx hb dX6_totalByPoints_58 (by decide) ?_
          exact (xe_l hx hb hr hlocks hbase hh hK hX hS h (Nat.le_of_ble_eq_true rfl) (Nat.le_of_ble_eq_true rfl) dX6_totalByPoints_59)
        · replace h := h.2 c16
          refine lv_aload_n hx hb dX6_totalByPoints_48 rfl (lv_at hl 0 rfl) ?_
          refine lv_iload_n hx hb dX6_totalByPoints_49 rfl (lv_at hl 1 rfl) ?_
          refine lv_iload_n hx hb dX6_totalByPoints_50 rfl (lv_at hl 2 rfl) ?_
          refine lv_iload_n hx hb dX6_totalByPoints_51 rfl (lv_at hl 3 rfl) ?_
          obtain ⟨g17, h⟩ := h
          refine xc_l (va_runV (As := [.int p1, .int p2, .int p3]) (rest := []) ⟨hx, hb, hml, hown, hts⟩ (mt_X6_sumOf l G base h) (cwV 3 hts gX6_totalByPoints_X6_sumOf rfl rfl rfl (by decide +kernel) ⟨Nat.le_of_ble_eq_true rfl, Nat.le_of_ble_eq_true rfl⟩) (xp_V hbase hh hK hX hS (ci := 6) g17 (by decide) rfl) rfl rfl hl.1 rfl (lv_room (Nat.le_of_ble_eq_true rfl)) dX6_totalByPoints_52 ⟨Nat.le_of_ble_eq_true rfl, Nat.le_of_ble_eq_true rfl⟩) hS (fun r18 m19 H locs h hh hS => ?_)
          refine lv_goto (tgt := 59) hx hb dX6_totalByPoints_55 (by decide) ?_
          exact (xe_l hx hb hr hlocks hbase hh hK hX hS h (Nat.le_of_ble_eq_true rfl) (Nat.le_of_ble_eq_true rfl) dX6_totalByPoints_59)
      · replace h := h.2 c12
        refine lv_iconst (v := 3) hx hb dX6_totalByPoints_37 (by decide) ?_
        refine lv_goto (tgt := 42) hx hb dX6_totalByPoints_38 (by decide) ?_
        obtain ⟨g20, h⟩ := h
        refine xc_i (va_runV (As := [.int (3 : Int32)]) (rest := []) ⟨hx, hb, hml, hown, hts⟩ (mt_X6_can l G base h) (cwV 1 hts gX6_totalByPoints_X6_can rfl rfl rfl (by decide +kernel) ⟨Nat.le_of_ble_eq_true rfl, Nat.le_of_ble_eq_true rfl⟩) (xp_V hbase hh hK hX hS (ci := 6) g20 (by decide) rfl) rfl rfl hl.1 rfl (lv_room (Nat.le_of_ble_eq_true rfl)) dX6_totalByPoints_42 ⟨Nat.le_of_ble_eq_true rfl, Nat.le_of_ble_eq_true rfl⟩) hS (fun r21 m22 H locs h hh hS => ?_)
        refine lv_if_eq (tgt := 58) hx hb dX6_totalByPoints_45 (by decide) (fun c23 => ?_) (fun c23 => ?_)
        · replace h := h.1 c23
          refine lv_lconst (v := 0) hx hb dX6_totalByPoints_58 (by decide) ?_
          exact (xe_l hx hb hr hlocks hbase hh hK hX hS h (Nat.le_of_ble_eq_true rfl) (Nat.le_of_ble_eq_true rfl) dX6_totalByPoints_59)
        · replace h := h.2 c23
          refine lv_aload_n hx hb dX6_totalByPoints_48 rfl (lv_at hl 0 rfl) ?_
          refine lv_iload_n hx hb dX6_totalByPoints_49 rfl (lv_at hl 1 rfl) ?_
          refine lv_iload_n hx hb dX6_totalByPoints_50 rfl (lv_at hl 2 rfl) ?_
          refine lv_iload_n hx hb dX6_totalByPoints_51 rfl (lv_at hl 3 rfl) ?_
          obtain ⟨g24, h⟩ := h
          refine xc_l (va_runV (As := [.int p1, .int p2, .int p3]) (rest := []) ⟨hx, hb, hml, hown, hts⟩ (mt_X6_sumOf l G base h) (cwV 3 hts gX6_totalByPoints_X6_sumOf rfl rfl rfl (by decide +kernel) ⟨Nat.le_of_ble_eq_true rfl, Nat.le_of_ble_eq_true rfl⟩) (xp_V hbase hh hK hX hS (ci := 6) g24 (by decide) rfl) rfl rfl hl.1 rfl (lv_room (Nat.le_of_ble_eq_true rfl)) dX6_totalByPoints_52 ⟨Nat.le_of_ble_eq_true rfl, Nat.le_of_ble_eq_true rfl⟩) hS (fun r25 m26 H locs h hh hS => ?_)
          refine lv_goto (tgt := 59) hx hb dX6_totalByPoints_55 (by decide) ?_
          exact (xe_l hx hb hr hlocks hbase hh hK hX hS h (Nat.le_of_ble_eq_true rfl) (Nat.le_of_ble_eq_true rfl) dX6_totalByPoints_59)
    · replace h := h.2 c7
      refine lv_iconst (v := 2) hx hb dX6_totalByPoints_23 (by decide) ?_
      refine lv_goto (tgt := 42) hx hb dX6_totalByPoints_24 (by decide) ?_
      obtain ⟨g27, h⟩ := h
      refine xc_i (va_runV (As := [.int (2 : Int32)]) (rest := []) ⟨hx, hb, hml, hown, hts⟩ (mt_X6_can l G base h) (cwV 1 hts gX6_totalByPoints_X6_can rfl rfl rfl (by decide +kernel) ⟨Nat.le_of_ble_eq_true rfl, Nat.le_of_ble_eq_true rfl⟩) (xp_V hbase hh hK hX hS (ci := 6) g27 (by decide) rfl) rfl rfl hl.1 rfl (lv_room (Nat.le_of_ble_eq_true rfl)) dX6_totalByPoints_42 ⟨Nat.le_of_ble_eq_true rfl, Nat.le_of_ble_eq_true rfl⟩) hS (fun r28 m29 H locs h hh hS => ?_)
      refine lv_if_eq (tgt := 58) hx hb dX6_totalByPoints_45 (by decide) (fun c30 => ?_) (fun c30 => ?_)
      · replace h := h.1 c30
        refine lv_lconst (v := 0) hx hb dX6_totalByPoints_58 (by decide) ?_
        exact (xe_l hx hb hr hlocks hbase hh hK hX hS h (Nat.le_of_ble_eq_true rfl) (Nat.le_of_ble_eq_true rfl) dX6_totalByPoints_59)
      · replace h := h.2 c30
        refine lv_aload_n hx hb dX6_totalByPoints_48 rfl (lv_at hl 0 rfl) ?_
        refine lv_iload_n hx hb dX6_totalByPoints_49 rfl (lv_at hl 1 rfl) ?_
        refine lv_iload_n hx hb dX6_totalByPoints_50 rfl (lv_at hl 2 rfl) ?_
        refine lv_iload_n hx hb dX6_totalByPoints_51 rfl (lv_at hl 3 rfl) ?_
        obtain ⟨g31, h⟩ := h
        refine xc_l (va_runV (As := [.int p1, .int p2, .int p3]) (rest := []) ⟨hx, hb, hml, hown, hts⟩ (mt_X6_sumOf l G base h) (cwV 3 hts gX6_totalByPoints_X6_sumOf rfl rfl rfl (by decide +kernel) ⟨Nat.le_of_ble_eq_true rfl, Nat.le_of_ble_eq_true rfl⟩) (xp_V hbase hh hK hX hS (ci := 6) g31 (by decide) rfl) rfl rfl hl.1 rfl (lv_room (Nat.le_of_ble_eq_true rfl)) dX6_totalByPoints_52 ⟨Nat.le_of_ble_eq_true rfl, Nat.le_of_ble_eq_true rfl⟩) hS (fun r32 m33 H locs h hh hS => ?_)
        refine lv_goto (tgt := 59) hx hb dX6_totalByPoints_55 (by decide) ?_
        exact (xe_l hx hb hr hlocks hbase hh hK hX hS h (Nat.le_of_ble_eq_true rfl) (Nat.le_of_ble_eq_true rfl) dX6_totalByPoints_59)
  · replace h := h.2 c4
    refine lv_iconst (v := 1) hx hb dX6_totalByPoints_9 (by decide) ?_
    refine lv_goto (tgt := 42) hx hb dX6_totalByPoints_10 (by decide) ?_
    obtain ⟨g34, h⟩ := h
    refine xc_i (va_runV (As := [.int (1 : Int32)]) (rest := []) ⟨hx, hb, hml, hown, hts⟩ (mt_X6_can l G base h) (cwV 1 hts gX6_totalByPoints_X6_can rfl rfl rfl (by decide +kernel) ⟨Nat.le_of_ble_eq_true rfl, Nat.le_of_ble_eq_true rfl⟩) (xp_V hbase hh hK hX hS (ci := 6) g34 (by decide) rfl) rfl rfl hl.1 rfl (lv_room (Nat.le_of_ble_eq_true rfl)) dX6_totalByPoints_42 ⟨Nat.le_of_ble_eq_true rfl, Nat.le_of_ble_eq_true rfl⟩) hS (fun r35 m36 H locs h hh hS => ?_)
    refine lv_if_eq (tgt := 58) hx hb dX6_totalByPoints_45 (by decide) (fun c37 => ?_) (fun c37 => ?_)
    · replace h := h.1 c37
      refine lv_lconst (v := 0) hx hb dX6_totalByPoints_58 (by decide) ?_
      exact (xe_l hx hb hr hlocks hbase hh hK hX hS h (Nat.le_of_ble_eq_true rfl) (Nat.le_of_ble_eq_true rfl) dX6_totalByPoints_59)
    · replace h := h.2 c37
      refine lv_aload_n hx hb dX6_totalByPoints_48 rfl (lv_at hl 0 rfl) ?_
      refine lv_iload_n hx hb dX6_totalByPoints_49 rfl (lv_at hl 1 rfl) ?_
      refine lv_iload_n hx hb dX6_totalByPoints_50 rfl (lv_at hl 2 rfl) ?_
      refine lv_iload_n hx hb dX6_totalByPoints_51 rfl (lv_at hl 3 rfl) ?_
      obtain ⟨g38, h⟩ := h
      refine xc_l (va_runV (As := [.int p1, .int p2, .int p3]) (rest := []) ⟨hx, hb, hml, hown, hts⟩ (mt_X6_sumOf l G base h) (cwV 3 hts gX6_totalByPoints_X6_sumOf rfl rfl rfl (by decide +kernel) ⟨Nat.le_of_ble_eq_true rfl, Nat.le_of_ble_eq_true rfl⟩) (xp_V hbase hh hK hX hS (ci := 6) g38 (by decide) rfl) rfl rfl hl.1 rfl (lv_room (Nat.le_of_ble_eq_true rfl)) dX6_totalByPoints_52 ⟨Nat.le_of_ble_eq_true rfl, Nat.le_of_ble_eq_true rfl⟩) hS (fun r39 m40 H locs h hh hS => ?_)
      refine lv_goto (tgt := 59) hx hb dX6_totalByPoints_55 (by decide) ?_
      exact (xe_l hx hb hr hlocks hbase hh hK hX hS h (Nat.le_of_ble_eq_true rfl) (Nat.le_of_ble_eq_true rfl) dX6_totalByPoints_59)

set_option maxHeartbeats 4000000 in
set_option maxRecDepth 100000 in
theorem bk_X6_rises_9 {p : Program} {l : Launch} {e : Env} {s : State} {m : MethodId} {args : Array Value} {below : List Frame} {meth : Method} {c : Code} {G : GG} {base : Nat} (C0 : BC p s m args meth c G base RX6 cX6_rises 8 (some .long) wsX6_rises) {Q : Int64 → MM → Prop} : ∀ (n : Nat) (l0 : Nat) (l1 : Int32) (l2 : Int32) (l3 : Int32) (l4 : Int64) (l6 : Int32) (l7 : Int32) (m0 : MM) (H : Heap) (locs : List Loc) (ls : Array Slot), wp_X6_rises_9 Q n l0 l1 l2 l3 l4 l6 l7 m0 → hp G (xA base) m0 H → va_S (xA base) s.heap H locs → lv_has ls 8 [(0, .ref l0), (1, .int l1), (2, .int l2), (3, .int l3), (4, .long l4), (6, .int l6), (7, .int l7)] → W p l e ({ frames := 0, cells := 0, slots := 0, locals := 8 } : Room) s m args below meth c H locs 0 0 (MQ below (va_Ql Q (HB G base) (xA base)) args s 0 0 (xA base)) (F0 m 9 ls []) := by
  obtain ⟨hx, hb, hr, hml, hown, hts, hlocks, hK, hbase, hX⟩ := id C0
  intro n
  induction n with
  | zero =>
    intro l0 l1 l2 l3 l4 l6 l7 m0 H locs ls h
    unfold wp_X6_rises_9 at h
    exact h.elim
  | succ n ih =>
    intro l0 l1 l2 l3 l4 l6 l7 m0 H locs ls h hh hS hl
    unfold wp_X6_rises_9 at h
    have hL6 : ∀ w ∈ u_ws RX6 TX6 17, w.before _ s = true := fun w h9 => hts w (List.mem_cons_of_mem _ (List.mem_append_right _ (h9)))
    have q2 : (Cond.fieldLink RX6 46 "RollupStoreModel" "all" "I").before _ s = true := hts _ (List.mem_cons_of_mem _ (List.mem_append_left _ (List.mem_of_getElem? (i := 0) rfl)))
    have q3 : (Cond.fieldLink RX6 19 "RollupStoreModel" "who" "[I").before _ s = true := hts _ (List.mem_cons_of_mem _ (List.mem_append_left _ (List.mem_of_getElem? (i := 1) rfl)))
    have q4 : (Cond.fieldLink RX6 22 "RollupStoreModel" "time" "[I").before _ s = true := hts _ (List.mem_cons_of_mem _ (List.mem_append_left _ (List.mem_of_getElem? (i := 2) rfl)))
    have q5 : (Cond.fieldLink RX6 25 "RollupStoreModel" "value" "[I").before _ s = true := hts _ (List.mem_cons_of_mem _ (List.mem_append_left _ (List.mem_of_getElem? (i := 3) rfl)))
    refine lv_iload hx hb dX6_rises_9 (lv_at hl 6 rfl) ?_
    refine lv_aload_n hx hb dX6_rises_11 rfl (lv_at hl 0 rfl) ?_
    obtain ⟨g4, h⟩ := h
    refine xr_getI (ci := 6) (C := RX6) (T := TX6) (N := 17) hx hb hL6 hown hK hh g4 (by decide) rfl 2 122 rfl rfl (by decide) (by decide) q2 (fun _ h9 => h9) dX6_rises_12 ?_
    refine lv_icmp_ge (tgt := 115) hx hb dX6_rises_15 (by decide) (fun c5 => ?_) (fun c5 => ?_)
    · replace h := h.1 c5
      refine lv_lload hx hb dX6_rises_115 (lv_at hl 4 rfl) ?_
      exact (xe_l hx hb hr hlocks hbase hh hK hX hS h (Nat.le_of_ble_eq_true rfl) (Nat.le_of_ble_eq_true rfl) dX6_rises_117)
    · replace h := h.2 c5
      refine lv_aload_n hx hb dX6_rises_18 rfl (lv_at hl 0 rfl) ?_
      obtain ⟨g6, h⟩ := h
      obtain ⟨b7, eb7, h⟩ := h
      refine xr_getR (ci := 6) (C := RX6) (T := TX6) (N := 17) hx hb hL6 hown hK hh g6 (by decide) rfl 6 126 rfl rfl (by decide) (by decide) q3 (fun _ h9 => h9) eb7 dX6_rises_19 ?_
      refine lv_iload hx hb dX6_rises_22 (lv_at hl 6 rfl) ?_
      obtain ⟨g8, h⟩ := h
      obtain ⟨g9, h⟩ := h
      refine xr_iald hx hb hK hh g8 g9 dX6_rises_24 ?_
      refine lv_iload_n hx hb dX6_rises_25 rfl (lv_at hl 1 rfl) ?_
      refine lv_icmp_ne (tgt := 109) hx hb dX6_rises_26 (by decide) (fun c10 => ?_) (fun c10 => ?_)
      · replace h := h.1 c10
        obtain ⟨x11, ex11⟩ : ∃ y : Int32, y = l7 + 1 := ⟨_, rfl⟩
        replace h := h x11 ex11
        refine lv_iinc (v := x11) (lv' := [(7, .int x11), (0, .ref l0), (1, .int l1), (2, .int l2), (3, .int l3), (4, .long l4), (6, .int l6)]) hx hb dX6_rises_109 hl (k := 6) rfl (by rw [ex11]; rfl) (by decide) rfl (fun ls hl => ?_)
        refine lv_goto (tgt := 9) hx hb dX6_rises_112 (by decide) ?_
        exact ih _ _ _ _ _ _ _ _ _ _ _ h hh hS (lv_sub hl [1, 2, 3, 4, 5, 6, 0] rfl)
      · replace h := h.2 c10
        refine lv_aload_n hx hb dX6_rises_29 rfl (lv_at hl 0 rfl) ?_
        obtain ⟨g12, h⟩ := h
        obtain ⟨b13, eb13, h⟩ := h
        refine xr_getR (ci := 6) (C := RX6) (T := TX6) (N := 17) hx hb hL6 hown hK hh g12 (by decide) rfl 7 127 rfl rfl (by decide) (by decide) q4 (fun _ h9 => h9) eb13 dX6_rises_30 ?_
        refine lv_iload hx hb dX6_rises_33 (lv_at hl 6 rfl) ?_
        obtain ⟨g14, h⟩ := h
        obtain ⟨g15, h⟩ := h
        refine xr_iald hx hb hK hh g14 g15 dX6_rises_35 ?_
        refine lv_iload_n hx hb dX6_rises_36 rfl (lv_at hl 2 rfl) ?_
        refine lv_icmp_lt (tgt := 109) hx hb dX6_rises_37 (by decide) (fun c16 => ?_) (fun c16 => ?_)
        · replace h := h.1 c16
          obtain ⟨x17, ex17⟩ : ∃ y : Int32, y = l7 + 1 := ⟨_, rfl⟩
          replace h := h x17 ex17
          refine lv_iinc (v := x17) (lv' := [(7, .int x17), (0, .ref l0), (1, .int l1), (2, .int l2), (3, .int l3), (4, .long l4), (6, .int l6)]) hx hb dX6_rises_109 hl (k := 6) rfl (by rw [ex17]; rfl) (by decide) rfl (fun ls hl => ?_)
          refine lv_goto (tgt := 9) hx hb dX6_rises_112 (by decide) ?_
          exact ih _ _ _ _ _ _ _ _ _ _ _ h hh hS (lv_sub hl [1, 2, 3, 4, 5, 6, 0] rfl)
        · replace h := h.2 c16
          refine lv_aload_n hx hb dX6_rises_40 rfl (lv_at hl 0 rfl) ?_
          obtain ⟨g18, h⟩ := h
          obtain ⟨b19, eb19, h⟩ := h
          refine xr_getR (ci := 6) (C := RX6) (T := TX6) (N := 17) hx hb hL6 hown hK hh g18 (by decide) rfl 7 127 rfl rfl (by decide) (by decide) q4 (fun _ h9 => h9) eb19 dX6_rises_41 ?_
          refine lv_iload hx hb dX6_rises_44 (lv_at hl 6 rfl) ?_
          obtain ⟨g20, h⟩ := h
          obtain ⟨g21, h⟩ := h
          refine xr_iald hx hb hK hh g20 g21 dX6_rises_46 ?_
          refine lv_iload_n hx hb dX6_rises_47 rfl (lv_at hl 3 rfl) ?_
          refine lv_icmp_ge (tgt := 109) hx hb dX6_rises_48 (by decide) (fun c22 => ?_) (fun c22 => ?_)
          · replace h := h.1 c22
            obtain ⟨x23, ex23⟩ : ∃ y : Int32, y = l7 + 1 := ⟨_, rfl⟩
            replace h := h x23 ex23
            refine lv_iinc (v := x23) (lv' := [(7, .int x23), (0, .ref l0), (1, .int l1), (2, .int l2), (3, .int l3), (4, .long l4), (6, .int l6)]) hx hb dX6_rises_109 hl (k := 6) rfl (by rw [ex23]; rfl) (by decide) rfl (fun ls hl => ?_)
            refine lv_goto (tgt := 9) hx hb dX6_rises_112 (by decide) ?_
            exact ih _ _ _ _ _ _ _ _ _ _ _ h hh hS (lv_sub hl [1, 2, 3, 4, 5, 6, 0] rfl)
          · replace h := h.2 c22
            refine lv_lload hx hb dX6_rises_51 (lv_at hl 4 rfl) ?_
            refine lv_iload hx hb dX6_rises_53 (lv_at hl 5 rfl) ?_
            refine lv_iconst (v := -1) hx hb dX6_rises_55 (by decide) ?_
            refine lv_icmp_ne (tgt := 63) hx hb dX6_rises_56 (by decide) (fun c24 => ?_) (fun c24 => ?_)
            · replace h := h.1 c24
              refine lv_aload_n hx hb dX6_rises_63 rfl (lv_at hl 0 rfl) ?_
              obtain ⟨g25, h⟩ := h
              obtain ⟨b26, eb26, h⟩ := h
              refine xr_getR (ci := 6) (C := RX6) (T := TX6) (N := 17) hx hb hL6 hown hK hh g25 (by decide) rfl 8 128 rfl rfl (by decide) (by decide) q5 (fun _ h9 => h9) eb26 dX6_rises_64 ?_
              refine lv_iload hx hb dX6_rises_67 (lv_at hl 6 rfl) ?_
              obtain ⟨g27, h⟩ := h
              obtain ⟨g28, h⟩ := h
              refine xr_iald hx hb hK hh g27 g28 dX6_rises_69 ?_
              refine lv_iload hx hb dX6_rises_70 (lv_at hl 5 rfl) ?_
              refine lv_icmp_ge (tgt := 86) hx hb dX6_rises_72 (by decide) (fun c29 => ?_) (fun c29 => ?_)
              · replace h := h.1 c29
                refine lv_aload_n hx hb dX6_rises_86 rfl (lv_at hl 0 rfl) ?_
                obtain ⟨g30, h⟩ := h
                obtain ⟨b31, eb31, h⟩ := h
                refine xr_getR (ci := 6) (C := RX6) (T := TX6) (N := 17) hx hb hL6 hown hK hh g30 (by decide) rfl 8 128 rfl rfl (by decide) (by decide) q5 (fun _ h9 => h9) eb31 dX6_rises_87 ?_
                refine lv_iload hx hb dX6_rises_90 (lv_at hl 6 rfl) ?_
                obtain ⟨g32, h⟩ := h
                obtain ⟨g33, h⟩ := h
                refine xr_iald hx hb hK hh g32 g33 dX6_rises_92 ?_
                refine lv_iload hx hb dX6_rises_93 (lv_at hl 5 rfl) ?_
                refine lv_isub hx hb dX6_rises_95 ?_
                refine lv_i2l hx hb dX6_rises_96 rfl ?_
                refine lv_ladd hx hb dX6_rises_97 ?_
                refine lv_topl (fun x34 ex34 => ?_)
                replace h := h x34 ex34
                refine lv_lstore (lv' := [(4, .long x34), (0, .ref l0), (1, .int l1), (2, .int l2), (3, .int l3), (6, .int l6), (7, .int l7)]) hx hb dX6_rises_98 hl (by decide) rfl (fun ls hl => ?_)
                refine lv_aload_n hx hb dX6_rises_100 rfl (lv_at hl 1 rfl) ?_
                obtain ⟨g35, h⟩ := h
                obtain ⟨b36, eb36, h⟩ := h
                refine xr_getR (ci := 6) (C := RX6) (T := TX6) (N := 17) hx hb hL6 hown hK hh g35 (by decide) rfl 8 128 rfl rfl (by decide) (by decide) q5 (fun _ h9 => h9) eb36 dX6_rises_101 ?_
                refine lv_iload hx hb dX6_rises_104 (lv_at hl 6 rfl) ?_
                obtain ⟨g37, h⟩ := h
                obtain ⟨g38, h⟩ := h
                refine xr_iald hx hb hK hh g37 g38 dX6_rises_106 ?_
                refine lv_topi (fun x39 ex39 => ?_)
                replace h := h x39 ex39
                refine lv_istore (lv' := [(6, .int x39), (4, .long x34), (0, .ref l0), (1, .int l1), (2, .int l2), (3, .int l3), (7, .int l7)]) hx hb dX6_rises_107 hl (by decide) rfl (fun ls hl => ?_)
                obtain ⟨x40, ex40⟩ : ∃ y : Int32, y = l7 + 1 := ⟨_, rfl⟩
                replace h := h x40 ex40
                refine lv_iinc (v := x40) (lv' := [(7, .int x40), (6, .int x39), (4, .long x34), (0, .ref l0), (1, .int l1), (2, .int l2), (3, .int l3)]) hx hb dX6_rises_109 hl (k := 6) rfl (by rw [ex40]; rfl) (by decide) rfl (fun ls hl => ?_)
                refine lv_goto (tgt := 9) hx hb dX6_rises_112 (by decide) ?_
                exact ih _ _ _ _ _ _ _ _ _ _ _ h hh hS (lv_sub hl [3, 4, 5, 6, 2, 1, 0] rfl)
              · replace h := h.2 c29
                refine lv_aload_n hx hb dX6_rises_75 rfl (lv_at hl 0 rfl) ?_
                obtain ⟨g41, h⟩ := h
                obtain ⟨b42, eb42, h⟩ := h
                refine xr_getR (ci := 6) (C := RX6) (T := TX6) (N := 17) hx hb hL6 hown hK hh g41 (by decide) rfl 8 128 rfl rfl (by decide) (by decide) q5 (fun _ h9 => h9) eb42 dX6_rises_76 ?_
                refine lv_iload hx hb dX6_rises_79 (lv_at hl 6 rfl) ?_
                obtain ⟨g43, h⟩ := h
                obtain ⟨g44, h⟩ := h
                refine xr_iald hx hb hK hh g43 g44 dX6_rises_81 ?_
                refine lv_i2l hx hb dX6_rises_82 rfl ?_
                refine lv_goto (tgt := 97) hx hb dX6_rises_83 (by decide) ?_
                refine lv_ladd hx hb dX6_rises_97 ?_
                refine lv_topl (fun x45 ex45 => ?_)
                replace h := h x45 ex45
                refine lv_lstore (lv' := [(4, .long x45), (0, .ref l0), (1, .int l1), (2, .int l2), (3, .int l3), (6, .int l6), (7, .int l7)]) hx hb dX6_rises_98 hl (by decide) rfl (fun ls hl => ?_)
                refine lv_aload_n hx hb dX6_rises_100 rfl (lv_at hl 1 rfl) ?_
                obtain ⟨g46, h⟩ := h
                obtain ⟨b47, eb47, h⟩ := h
                refine xr_getR (ci := 6) (C := RX6) (T := TX6) (N := 17) hx hb hL6 hown hK hh g46 (by decide) rfl 8 128 rfl rfl (by decide) (by decide) q5 (fun _ h9 => h9) eb47 dX6_rises_101 ?_
                refine lv_iload hx hb dX6_rises_104 (lv_at hl 6 rfl) ?_
                obtain ⟨g48, h⟩ := h
                obtain ⟨g49, h⟩ := h
                refine xr_iald hx hb hK hh g48 g49 dX6_rises_106 ?_
                refine lv_topi (fun x50 ex50 => ?_)
                replace h := h x50 ex50
                refine lv_istore (lv' := [(6, .int x50), (4, .long x45), (0, .ref l0), (1, .int l1), (2, .int l2), (3, .int l3), (7, .int l7)]) hx hb dX6_rises_107 hl (by decide) rfl (fun ls hl => ?_)
                obtain ⟨x51, ex51⟩ : ∃ y : Int32, y = l7 + 1 := ⟨_, rfl⟩
                replace h := h x51 ex51
                refine lv_iinc (v := x51) (lv' := [(7, .int x51), (6, .int x50), (4, .long x45), (0, .ref l0), (1, .int l1), (2, .int l2), (3, .int l3)]) hx hb dX6_rises_109 hl (k := 6) rfl (by rw [ex51]; rfl) (by decide) rfl (fun ls hl => ?_)
                refine lv_goto (tgt := 9) hx hb dX6_rises_112 (by decide) ?_
                exact ih _ _ _ _ _ _ _ _ _ _ _ h hh hS (lv_sub hl [3, 4, 5, 6, 2, 1, 0] rfl)
            · replace h := h.2 c24
              refine lv_lconst (v := 0) hx hb dX6_rises_59 (by decide) ?_
              refine lv_goto (tgt := 97) hx hb dX6_rises_60 (by decide) ?_
              refine lv_ladd hx hb dX6_rises_97 ?_
              refine lv_topl (fun x52 ex52 => ?_)
              replace h := h x52 ex52
              refine lv_lstore (lv' := [(4, .long x52), (0, .ref l0), (1, .int l1), (2, .int l2), (3, .int l3), (6, .int l6), (7, .int l7)]) hx hb dX6_rises_98 hl (by decide) rfl (fun ls hl => ?_)
              refine lv_aload_n hx hb dX6_rises_100 rfl (lv_at hl 1 rfl) ?_
              obtain ⟨g53, h⟩ := h
              obtain ⟨b54, eb54, h⟩ := h
              refine xr_getR (ci := 6) (C := RX6) (T := TX6) (N := 17) hx hb hL6 hown hK hh g53 (by decide) rfl 8 128 rfl rfl (by decide) (by decide) q5 (fun _ h9 => h9) eb54 dX6_rises_101 ?_
              refine lv_iload hx hb dX6_rises_104 (lv_at hl 6 rfl) ?_
              obtain ⟨g55, h⟩ := h
              obtain ⟨g56, h⟩ := h
              refine xr_iald hx hb hK hh g55 g56 dX6_rises_106 ?_
              refine lv_topi (fun x57 ex57 => ?_)
              replace h := h x57 ex57
              refine lv_istore (lv' := [(6, .int x57), (4, .long x52), (0, .ref l0), (1, .int l1), (2, .int l2), (3, .int l3), (7, .int l7)]) hx hb dX6_rises_107 hl (by decide) rfl (fun ls hl => ?_)
              obtain ⟨x58, ex58⟩ : ∃ y : Int32, y = l7 + 1 := ⟨_, rfl⟩
              replace h := h x58 ex58
              refine lv_iinc (v := x58) (lv' := [(7, .int x58), (6, .int x57), (4, .long x52), (0, .ref l0), (1, .int l1), (2, .int l2), (3, .int l3)]) hx hb dX6_rises_109 hl (k := 6) rfl (by rw [ex58]; rfl) (by decide) rfl (fun ls hl => ?_)
              refine lv_goto (tgt := 9) hx hb dX6_rises_112 (by decide) ?_
              exact ih _ _ _ _ _ _ _ _ _ _ _ h hh hS (lv_sub hl [3, 4, 5, 6, 2, 1, 0] rfl)

set_option maxHeartbeats 4000000 in
set_option maxRecDepth 100000 in
theorem mt_X6_rises (l : Launch) (G : GG) (base : Nat) {a0 : Nat} {p1 : Int32} {p2 : Int32} {p3 : Int32} {m0 : MM} {Q : Int64 → MM → Prop} (h : wp_X6_rises a0 p1 p2 p3 m0 Q) : Met l yX6_rises wsX6_rises ({ frames := 0, cells := 0, slots := 0, locals := 8 }) (va_Pc [.ref a0, .int p1, .int p2, .int p3] (SP G base m0)) (va_Ql Q (HB G base) (xA base)) 0 0 (xA base) := by
  refine Met.ofW (cc := cX6_rises) (maxL := 8) (ret := (some .long)) (by decide) rfl ?_
  intro p e s m args below meth c s₁ B hml hv
  obtain ⟨rfl, hbase, hh, hK, hX⟩ := hv
  have C0 : BC p s m _ meth c G base RX6 cX6_rises 8 (some .long) wsX6_rises := ⟨B.exec, B.bytes, B.returns, hml, findClass_of_methodNamed B.named, atoms_spec (ws := wsX6_rises) B.pre, B.notSynchronized, hK, hbase, hX⟩
  obtain ⟨hx, hb, hr, -, hown, hts, hlocks, -, -, -⟩ := id C0
  have hS : va_S (xA base) s.heap s.heap [] := va_S.rf
  have hl := lv_entry ([.ref a0, .int p1, .int p2, .int p3]) (n := 8) (Nat.le_of_ble_eq_true rfl)
  rw [lg_entry_eq]
  generalize (lg_sl ([.ref a0, .int p1, .int p2, .int p3]) ++ List.replicate (8 - (lg_sl ([.ref a0, .int p1, .int p2, .int p3])).length) Slot.unset).toArray = ls at hl ⊢
  have hl : lv_has ls 8 [(0, .ref a0), (1, .int p1), (2, .int p2), (3, .int p3)] := hl
  unfold wp_X6_rises at h
  refine lv_lconst (v := 0) hx hb dX6_rises_0 (by decide) ?_
  refine lv_topl (fun x1 ex1 => ?_)
  replace h := h x1 ex1
  refine lv_lstore (lv' := [(4, .long x1), (0, .ref a0), (1, .int p1), (2, .int p2), (3, .int p3)]) hx hb dX6_rises_1 hl (by decide) rfl (fun ls hl => ?_)
  refine lv_iconst (v := -1) hx hb dX6_rises_3 (by decide) ?_
  refine lv_topi (fun x2 ex2 => ?_)
  replace h := h x2 ex2
  refine lv_istore (lv' := [(6, .int x2), (4, .long x1), (0, .ref a0), (1, .int p1), (2, .int p2), (3, .int p3)]) hx hb dX6_rises_4 hl (by decide) rfl (fun ls hl => ?_)
  refine lv_iconst (v := 0) hx hb dX6_rises_6 (by decide) ?_
  refine lv_topi (fun x3 ex3 => ?_)
  replace h := h x3 ex3
  refine lv_istore (lv' := [(7, .int x3), (6, .int x2), (4, .long x1), (0, .ref a0), (1, .int p1), (2, .int p2), (3, .int p3)]) hx hb dX6_rises_7 hl (by decide) rfl (fun ls hl => ?_)
  obtain ⟨n9, h⟩ := h
  exact bk_X6_rises_9 C0  n9 _ _ _ _ _ _ _ _ _ _ _ h hh hS (lv_sub hl [3, 4, 5, 6, 2, 1, 0] rfl)

set_option maxHeartbeats 4000000 in
set_option maxRecDepth 100000 in
theorem mt_X6_increase (l : Launch) (G : GG) (base : Nat) {a0 : Nat} {p1 : Int32} {p2 : Int32} {p3 : Int32} {m0 : MM} {Q : Int64 → MM → Prop} (h : wp_X6_increase a0 p1 p2 p3 m0 Q) : Met l yX6_increase wsX6_increase ({ frames := 3, cells := 0, slots := 0, locals := 90 }) (va_Pc [.ref a0, .int p1, .int p2, .int p3] (SP G base m0)) (va_Ql Q (HB G base) (xA base)) 0 0 (xA base) := by
  refine Met.ofW (cc := cX6_increase) (maxL := 4) (ret := (some .long)) (by decide) rfl ?_
  intro p e s m args below meth c s₁ B hml hv
  obtain ⟨rfl, hbase, hh, hK, hX⟩ := hv
  have C0 : BC p s m _ meth c G base RX6 cX6_increase 4 (some .long) wsX6_increase := ⟨B.exec, B.bytes, B.returns, hml, findClass_of_methodNamed B.named, atoms_spec (ws := wsX6_increase) B.pre, B.notSynchronized, hK, hbase, hX⟩
  obtain ⟨hx, hb, hr, -, hown, hts, hlocks, -, -, -⟩ := id C0
  have hS : va_S (xA base) s.heap s.heap [] := va_S.rf
  have hl := lv_entry ([.ref a0, .int p1, .int p2, .int p3]) (n := 4) (Nat.le_of_ble_eq_true rfl)
  rw [lg_entry_eq]
  generalize (lg_sl ([.ref a0, .int p1, .int p2, .int p3]) ++ List.replicate (4 - (lg_sl ([.ref a0, .int p1, .int p2, .int p3])).length) Slot.unset).toArray = ls at hl ⊢
  have hl : lv_has ls 4 [(0, .ref a0), (1, .int p1), (2, .int p2), (3, .int p3)] := hl
  unfold wp_X6_increase at h
  have hL6 : ∀ w ∈ u_ws RX6 TX6 17, w.before _ s = true := fun w h9 => hts w (List.mem_cons_of_mem _ (List.mem_append_right _ (h9)))
  have q2 : (Cond.fieldLink RX6 7 "RollupStoreModel" "kind" "[I").before _ s = true := hts _ (List.mem_cons_of_mem _ (List.mem_append_left _ (List.mem_append_left _ (List.mem_of_getElem? (i := 0) rfl))))
  refine lv_aload_n hx hb dX6_increase_0 rfl (lv_at hl 0 rfl) ?_
  refine lv_aload_n hx hb dX6_increase_1 rfl (lv_at hl 0 rfl) ?_
  refine lv_iload_n hx hb dX6_increase_2 rfl (lv_at hl 1 rfl) ?_
  obtain ⟨g1, h⟩ := h
  refine xc_i (va_runV (As := [.int p1]) (rest := [.ref a0]) ⟨hx, hb, hml, hown, hts⟩ (mt_X6_isSeries l G base h) (cwV 1 hts gX6_increase_X6_isSeries rfl rfl rfl (by decide +kernel) ⟨Nat.le_of_ble_eq_true rfl, Nat.le_of_ble_eq_true rfl⟩) (xp_V hbase hh hK hX hS (ci := 6) g1 (by decide) rfl) rfl rfl hl.1 rfl (lv_room (Nat.le_of_ble_eq_true rfl)) dX6_increase_3 ⟨Nat.le_of_ble_eq_true rfl, Nat.le_of_ble_eq_true rfl⟩) hS (fun r2 m3 H locs h hh hS => ?_)
  refine lv_if_ne (tgt := 13) hx hb dX6_increase_6 (by decide) (fun c4 => ?_) (fun c4 => ?_)
  · replace h := h.1 c4
    refine lv_iload_n hx hb dX6_increase_13 rfl (lv_at hl 2 rfl) ?_
    refine lv_iload_n hx hb dX6_increase_14 rfl (lv_at hl 3 rfl) ?_
    refine lv_bipush (v := 60) hx hb dX6_increase_15 (by decide) ?_
    refine xc_i (va_runS (As := [.int p2, .int p3, .int (60 : Int32)]) (rest := [.ref a0]) ⟨hx, hb, hml, hown, hts⟩ (mt_X6_isWindow l G base h) (va_cwS 3 hts gX6_increase_X6_isWindow rfl rfl rfl (by decide +kernel) ⟨Nat.le_of_ble_eq_true rfl, Nat.le_of_ble_eq_true rfl⟩) (xp_S hbase hh hK hX hS) rfl rfl hl.1 rfl (lv_room (Nat.le_of_ble_eq_true rfl)) dX6_increase_17 ⟨Nat.le_of_ble_eq_true rfl, Nat.le_of_ble_eq_true rfl⟩) hS (fun r5 m6 H locs h hh hS => ?_)
    refine lv_if_ne (tgt := 27) hx hb dX6_increase_20 (by decide) (fun c7 => ?_) (fun c7 => ?_)
    · replace h := h.1 c7
      refine lv_aload_n hx hb dX6_increase_27 rfl (lv_at hl 0 rfl) ?_
      obtain ⟨g8, h⟩ := h
      obtain ⟨b9, eb9, h⟩ := h
      refine xr_getR (ci := 6) (C := RX6) (T := TX6) (N := 17) hx hb hL6 hown hK hh g8 (by decide) rfl 3 123 rfl rfl (by decide) (by decide) q2 (fun _ h9 => h9) eb9 dX6_increase_28 ?_
      refine lv_iload_n hx hb dX6_increase_31 rfl (lv_at hl 1 rfl) ?_
      obtain ⟨g10, h⟩ := h
      obtain ⟨g11, h⟩ := h
      refine xr_iald hx hb hK hh g10 g11 dX6_increase_32 ?_
      refine lv_iconst (v := 1) hx hb dX6_increase_33 (by decide) ?_
      refine lv_icmp_ne (tgt := 46) hx hb dX6_increase_34 (by decide) (fun c12 => ?_) (fun c12 => ?_)
      · replace h := h.1 c12
        refine lv_iconst (v := 3) hx hb dX6_increase_46 (by decide) ?_
        refine lv_goto (tgt := 51) hx hb dX6_increase_47 (by decide) ?_
        obtain ⟨g13, h⟩ := h
        refine xc_i (va_runV (As := [.int (3 : Int32)]) (rest := []) ⟨hx, hb, hml, hown, hts⟩ (mt_X6_can l G base h) (cwV 1 hts gX6_increase_X6_can rfl rfl rfl (by decide +kernel) ⟨Nat.le_of_ble_eq_true rfl, Nat.le_of_ble_eq_true rfl⟩) (xp_V hbase hh hK hX hS (ci := 6) g13 (by decide) rfl) rfl rfl hl.1 rfl (lv_room (Nat.le_of_ble_eq_true rfl)) dX6_increase_51 ⟨Nat.le_of_ble_eq_true rfl, Nat.le_of_ble_eq_true rfl⟩) hS (fun r14 m15 H locs h hh hS => ?_)
        refine lv_if_eq (tgt := 67) hx hb dX6_increase_54 (by decide) (fun c16 => ?_) (fun c16 => ?_)
        · replace h := h.1 c16
          refine lv_lconst (v := 0) hx hb dX6_increase_67 (by decide) ?_
          exact (xe_l hx hb hr hlocks hbase hh hK hX hS h (Nat.le_of_ble_eq_true rfl) (Nat.le_of_ble_eq_true rfl) dX6_increase_68)
        · replace h := h.2 c16
          refine lv_aload_n hx hb dX6_increase_57 rfl (lv_at hl 0 rfl) ?_
          refine lv_iload_n hx hb dX6_increase_58 rfl (lv_at hl 1 rfl) ?_
          refine lv_iload_n hx hb dX6_increase_59 rfl (lv_at hl 2 rfl) ?_
          refine lv_iload_n hx hb dX6_increase_60 rfl (lv_at hl 3 rfl) ?_
          obtain ⟨g17, h⟩ := h
          refine xc_l (va_runV (As := [.int p1, .int p2, .int p3]) (rest := []) ⟨hx, hb, hml, hown, hts⟩ (mt_X6_rises l G base h) (cwV 3 hts gX6_increase_X6_rises rfl rfl rfl (by decide +kernel) ⟨Nat.le_of_ble_eq_true rfl, Nat.le_of_ble_eq_true rfl⟩) (xp_V hbase hh hK hX hS (ci := 6) g17 (by decide) rfl) rfl rfl hl.1 rfl (lv_room (Nat.le_of_ble_eq_true rfl)) dX6_increase_61 ⟨Nat.le_of_ble_eq_true rfl, Nat.le_of_ble_eq_true rfl⟩) hS (fun r18 m19 H locs h hh hS => ?_)
          refine lv_goto (tgt := 68) hx hb dX6_increase_64 (by decide) ?_
          exact (xe_l hx hb hr hlocks hbase hh hK hX hS h (Nat.le_of_ble_eq_true rfl) (Nat.le_of_ble_eq_true rfl) dX6_increase_68)
      · replace h := h.2 c12
        refine lv_aload_n hx hb dX6_increase_37 rfl (lv_at hl 0 rfl) ?_
        refine lv_iload_n hx hb dX6_increase_38 rfl (lv_at hl 2 rfl) ?_
        refine lv_iload_n hx hb dX6_increase_39 rfl (lv_at hl 3 rfl) ?_
        obtain ⟨g20, h⟩ := h
        refine xc_i (va_runV (As := [.int p2, .int p3]) (rest := [.ref a0]) ⟨hx, hb, hml, hown, hts⟩ (mt_X6_knows l G base h) (cwV 2 hts gX6_increase_X6_knows rfl rfl rfl (by decide +kernel) ⟨Nat.le_of_ble_eq_true rfl, Nat.le_of_ble_eq_true rfl⟩) (xp_V hbase hh hK hX hS (ci := 6) g20 (by decide) rfl) rfl rfl hl.1 rfl (lv_room (Nat.le_of_ble_eq_true rfl)) dX6_increase_40 ⟨Nat.le_of_ble_eq_true rfl, Nat.le_of_ble_eq_true rfl⟩) hS (fun r21 m22 H locs h hh hS => ?_)
        refine lv_if_ne (tgt := 50) hx hb dX6_increase_43 (by decide) (fun c23 => ?_) (fun c23 => ?_)
        · replace h := h.1 c23
          refine lv_iconst (v := 0) hx hb dX6_increase_50 (by decide) ?_
          obtain ⟨g24, h⟩ := h
          refine xc_i (va_runV (As := [.int (0 : Int32)]) (rest := []) ⟨hx, hb, hml, hown, hts⟩ (mt_X6_can l G base h) (cwV 1 hts gX6_increase_X6_can rfl rfl rfl (by decide +kernel) ⟨Nat.le_of_ble_eq_true rfl, Nat.le_of_ble_eq_true rfl⟩) (xp_V hbase hh hK hX hS (ci := 6) g24 (by decide) rfl) rfl rfl hl.1 rfl (lv_room (Nat.le_of_ble_eq_true rfl)) dX6_increase_51 ⟨Nat.le_of_ble_eq_true rfl, Nat.le_of_ble_eq_true rfl⟩) hS (fun r25 m26 H locs h hh hS => ?_)
          refine lv_if_eq (tgt := 67) hx hb dX6_increase_54 (by decide) (fun c27 => ?_) (fun c27 => ?_)
          · replace h := h.1 c27
            refine lv_lconst (v := 0) hx hb dX6_increase_67 (by decide) ?_
            exact (xe_l hx hb hr hlocks hbase hh hK hX hS h (Nat.le_of_ble_eq_true rfl) (Nat.le_of_ble_eq_true rfl) dX6_increase_68)
          · replace h := h.2 c27
            refine lv_aload_n hx hb dX6_increase_57 rfl (lv_at hl 0 rfl) ?_
            refine lv_iload_n hx hb dX6_increase_58 rfl (lv_at hl 1 rfl) ?_
            refine lv_iload_n hx hb dX6_increase_59 rfl (lv_at hl 2 rfl) ?_
            refine lv_iload_n hx hb dX6_increase_60 rfl (lv_at hl 3 rfl) ?_
            obtain ⟨g28, h⟩ := h
            refine xc_l (va_runV (As := [.int p1, .int p2, .int p3]) (rest := []) ⟨hx, hb, hml, hown, hts⟩ (mt_X6_rises l G base h) (cwV 3 hts gX6_increase_X6_rises rfl rfl rfl (by decide +kernel) ⟨Nat.le_of_ble_eq_true rfl, Nat.le_of_ble_eq_true rfl⟩) (xp_V hbase hh hK hX hS (ci := 6) g28 (by decide) rfl) rfl rfl hl.1 rfl (lv_room (Nat.le_of_ble_eq_true rfl)) dX6_increase_61 ⟨Nat.le_of_ble_eq_true rfl, Nat.le_of_ble_eq_true rfl⟩) hS (fun r29 m30 H locs h hh hS => ?_)
            refine lv_goto (tgt := 68) hx hb dX6_increase_64 (by decide) ?_
            exact (xe_l hx hb hr hlocks hbase hh hK hX hS h (Nat.le_of_ble_eq_true rfl) (Nat.le_of_ble_eq_true rfl) dX6_increase_68)
        · replace h := h.2 c23
          refine lv_iconst (v := 3) hx hb dX6_increase_46 (by decide) ?_
          refine lv_goto (tgt := 51) hx hb dX6_increase_47 (by decide) ?_
          obtain ⟨g31, h⟩ := h
          refine xc_i (va_runV (As := [.int (3 : Int32)]) (rest := []) ⟨hx, hb, hml, hown, hts⟩ (mt_X6_can l G base h) (cwV 1 hts gX6_increase_X6_can rfl rfl rfl (by decide +kernel) ⟨Nat.le_of_ble_eq_true rfl, Nat.le_of_ble_eq_true rfl⟩) (xp_V hbase hh hK hX hS (ci := 6) g31 (by decide) rfl) rfl rfl hl.1 rfl (lv_room (Nat.le_of_ble_eq_true rfl)) dX6_increase_51 ⟨Nat.le_of_ble_eq_true rfl, Nat.le_of_ble_eq_true rfl⟩) hS (fun r32 m33 H locs h hh hS => ?_)
          refine lv_if_eq (tgt := 67) hx hb dX6_increase_54 (by decide) (fun c34 => ?_) (fun c34 => ?_)
          · replace h := h.1 c34
            refine lv_lconst (v := 0) hx hb dX6_increase_67 (by decide) ?_
            exact (xe_l hx hb hr hlocks hbase hh hK hX hS h (Nat.le_of_ble_eq_true rfl) (Nat.le_of_ble_eq_true rfl) dX6_increase_68)
          · replace h := h.2 c34
            refine lv_aload_n hx hb dX6_increase_57 rfl (lv_at hl 0 rfl) ?_
            refine lv_iload_n hx hb dX6_increase_58 rfl (lv_at hl 1 rfl) ?_
            refine lv_iload_n hx hb dX6_increase_59 rfl (lv_at hl 2 rfl) ?_
            refine lv_iload_n hx hb dX6_increase_60 rfl (lv_at hl 3 rfl) ?_
            obtain ⟨g35, h⟩ := h
            refine xc_l (va_runV (As := [.int p1, .int p2, .int p3]) (rest := []) ⟨hx, hb, hml, hown, hts⟩ (mt_X6_rises l G base h) (cwV 3 hts gX6_increase_X6_rises rfl rfl rfl (by decide +kernel) ⟨Nat.le_of_ble_eq_true rfl, Nat.le_of_ble_eq_true rfl⟩) (xp_V hbase hh hK hX hS (ci := 6) g35 (by decide) rfl) rfl rfl hl.1 rfl (lv_room (Nat.le_of_ble_eq_true rfl)) dX6_increase_61 ⟨Nat.le_of_ble_eq_true rfl, Nat.le_of_ble_eq_true rfl⟩) hS (fun r36 m37 H locs h hh hS => ?_)
            refine lv_goto (tgt := 68) hx hb dX6_increase_64 (by decide) ?_
            exact (xe_l hx hb hr hlocks hbase hh hK hX hS h (Nat.le_of_ble_eq_true rfl) (Nat.le_of_ble_eq_true rfl) dX6_increase_68)
    · replace h := h.2 c7
      refine lv_iconst (v := 2) hx hb dX6_increase_23 (by decide) ?_
      refine lv_goto (tgt := 51) hx hb dX6_increase_24 (by decide) ?_
      obtain ⟨g38, h⟩ := h
      refine xc_i (va_runV (As := [.int (2 : Int32)]) (rest := []) ⟨hx, hb, hml, hown, hts⟩ (mt_X6_can l G base h) (cwV 1 hts gX6_increase_X6_can rfl rfl rfl (by decide +kernel) ⟨Nat.le_of_ble_eq_true rfl, Nat.le_of_ble_eq_true rfl⟩) (xp_V hbase hh hK hX hS (ci := 6) g38 (by decide) rfl) rfl rfl hl.1 rfl (lv_room (Nat.le_of_ble_eq_true rfl)) dX6_increase_51 ⟨Nat.le_of_ble_eq_true rfl, Nat.le_of_ble_eq_true rfl⟩) hS (fun r39 m40 H locs h hh hS => ?_)
      refine lv_if_eq (tgt := 67) hx hb dX6_increase_54 (by decide) (fun c41 => ?_) (fun c41 => ?_)
      · replace h := h.1 c41
        refine lv_lconst (v := 0) hx hb dX6_increase_67 (by decide) ?_
        exact (xe_l hx hb hr hlocks hbase hh hK hX hS h (Nat.le_of_ble_eq_true rfl) (Nat.le_of_ble_eq_true rfl) dX6_increase_68)
      · replace h := h.2 c41
        refine lv_aload_n hx hb dX6_increase_57 rfl (lv_at hl 0 rfl) ?_
        refine lv_iload_n hx hb dX6_increase_58 rfl (lv_at hl 1 rfl) ?_
        refine lv_iload_n hx hb dX6_increase_59 rfl (lv_at hl 2 rfl) ?_
        refine lv_iload_n hx hb dX6_increase_60 rfl (lv_at hl 3 rfl) ?_
        obtain ⟨g42, h⟩ := h
        refine xc_l (va_runV (As := [.int p1, .int p2, .int p3]) (rest := []) ⟨hx, hb, hml, hown, hts⟩ (mt_X6_rises l G base h) (cwV 3 hts gX6_increase_X6_rises rfl rfl rfl (by decide +kernel) ⟨Nat.le_of_ble_eq_true rfl, Nat.le_of_ble_eq_true rfl⟩) (xp_V hbase hh hK hX hS (ci := 6) g42 (by decide) rfl) rfl rfl hl.1 rfl (lv_room (Nat.le_of_ble_eq_true rfl)) dX6_increase_61 ⟨Nat.le_of_ble_eq_true rfl, Nat.le_of_ble_eq_true rfl⟩) hS (fun r43 m44 H locs h hh hS => ?_)
        refine lv_goto (tgt := 68) hx hb dX6_increase_64 (by decide) ?_
        exact (xe_l hx hb hr hlocks hbase hh hK hX hS h (Nat.le_of_ble_eq_true rfl) (Nat.le_of_ble_eq_true rfl) dX6_increase_68)
  · replace h := h.2 c4
    refine lv_iconst (v := 1) hx hb dX6_increase_9 (by decide) ?_
    refine lv_goto (tgt := 51) hx hb dX6_increase_10 (by decide) ?_
    obtain ⟨g45, h⟩ := h
    refine xc_i (va_runV (As := [.int (1 : Int32)]) (rest := []) ⟨hx, hb, hml, hown, hts⟩ (mt_X6_can l G base h) (cwV 1 hts gX6_increase_X6_can rfl rfl rfl (by decide +kernel) ⟨Nat.le_of_ble_eq_true rfl, Nat.le_of_ble_eq_true rfl⟩) (xp_V hbase hh hK hX hS (ci := 6) g45 (by decide) rfl) rfl rfl hl.1 rfl (lv_room (Nat.le_of_ble_eq_true rfl)) dX6_increase_51 ⟨Nat.le_of_ble_eq_true rfl, Nat.le_of_ble_eq_true rfl⟩) hS (fun r46 m47 H locs h hh hS => ?_)
    refine lv_if_eq (tgt := 67) hx hb dX6_increase_54 (by decide) (fun c48 => ?_) (fun c48 => ?_)
    · replace h := h.1 c48
      refine lv_lconst (v := 0) hx hb dX6_increase_67 (by decide) ?_
      exact (xe_l hx hb hr hlocks hbase hh hK hX hS h (Nat.le_of_ble_eq_true rfl) (Nat.le_of_ble_eq_true rfl) dX6_increase_68)
    · replace h := h.2 c48
      refine lv_aload_n hx hb dX6_increase_57 rfl (lv_at hl 0 rfl) ?_
      refine lv_iload_n hx hb dX6_increase_58 rfl (lv_at hl 1 rfl) ?_
      refine lv_iload_n hx hb dX6_increase_59 rfl (lv_at hl 2 rfl) ?_
      refine lv_iload_n hx hb dX6_increase_60 rfl (lv_at hl 3 rfl) ?_
      obtain ⟨g49, h⟩ := h
      refine xc_l (va_runV (As := [.int p1, .int p2, .int p3]) (rest := []) ⟨hx, hb, hml, hown, hts⟩ (mt_X6_rises l G base h) (cwV 3 hts gX6_increase_X6_rises rfl rfl rfl (by decide +kernel) ⟨Nat.le_of_ble_eq_true rfl, Nat.le_of_ble_eq_true rfl⟩) (xp_V hbase hh hK hX hS (ci := 6) g49 (by decide) rfl) rfl rfl hl.1 rfl (lv_room (Nat.le_of_ble_eq_true rfl)) dX6_increase_61 ⟨Nat.le_of_ble_eq_true rfl, Nat.le_of_ble_eq_true rfl⟩) hS (fun r50 m51 H locs h hh hS => ?_)
      refine lv_goto (tgt := 68) hx hb dX6_increase_64 (by decide) ?_
      exact (xe_l hx hb hr hlocks hbase hh hK hX hS h (Nat.le_of_ble_eq_true rfl) (Nat.le_of_ble_eq_true rfl) dX6_increase_68)

set_option maxHeartbeats 4000000 in
set_option maxRecDepth 100000 in
theorem bk_X6_ratePerHour_56 {p : Program} {l : Launch} {e : Env} {s : State} {m : MethodId} {args : Array Value} {below : List Frame} {meth : Method} {c : Code} {G : GG} {base : Nat} (C0 : BC p s m args meth c G base RX6 cX6_ratePerHour 5 (some .double) wsX6_ratePerHour) {Q : UInt64 → MM → Prop} : ∀ (l0 : Nat) (l1 : Int32) (l2 : Int32) (l3 : Int32) (s0 : Int32) (s1 : Nat) (m0 : MM) (H : Heap) (locs : List Loc) (ls : Array Slot), wp_X6_ratePerHour_56 Q l0 l1 l2 l3 s0 s1 m0 → hp G (xA base) m0 H → va_S (xA base) s.heap H locs → lv_has ls 5 [(0, .ref l0), (1, .int l1), (2, .int l2), (3, .int l3)] → W p l e ({ frames := 3, cells := 0, slots := 0, locals := 90 } : Room) s m args below meth c H locs 0 0 (MQ below (va_Qd Q (HB G base) (xA base)) args s 0 0 (xA base)) (F0 m 56 ls [.int s0, .ref s1]) := by
  obtain ⟨hx, hb, hr, hml, hown, hts, hlocks, hK, hbase, hX⟩ := id C0
  intro l0 l1 l2 l3 s0 s1 m0 H locs ls h hh hS hl
  unfold wp_X6_ratePerHour_56 at h
  have q1 : (Cond.constantDouble RX6 173 (4660134898793709568)).before _ s = true := hts _ (List.mem_cons_of_mem _ (List.mem_append_left _ (List.mem_append_left _ (List.mem_of_getElem? (i := 1) rfl))))
  obtain ⟨g8, h⟩ := h
  refine xc_i (va_runV (As := [.int s0]) (rest := []) ⟨hx, hb, hml, hown, hts⟩ (mt_X6_can l G base h) (cwV 1 hts gX6_ratePerHour_X6_can rfl rfl rfl (by decide +kernel) ⟨Nat.le_of_ble_eq_true rfl, Nat.le_of_ble_eq_true rfl⟩) (xp_V hbase hh hK hX hS (ci := 6) g8 (by decide) rfl) rfl rfl hl.1 rfl (lv_room (Nat.le_of_ble_eq_true rfl)) dX6_ratePerHour_56 ⟨Nat.le_of_ble_eq_true rfl, Nat.le_of_ble_eq_true rfl⟩) hS (fun r9 m10 H locs h hh hS => ?_)
  refine lv_istore (lv' := [(4, .int r9), (0, .ref l0), (1, .int l1), (2, .int l2), (3, .int l3)]) hx hb dX6_ratePerHour_59 hl (by decide) rfl (fun ls hl => ?_)
  refine lv_iload hx hb dX6_ratePerHour_61 (lv_at hl 0 rfl) ?_
  refine lv_if_eq (tgt := 86) hx hb dX6_ratePerHour_63 (by decide) (fun c11 => ?_) (fun c11 => ?_)
  · replace h := h.1 c11
    refine lv_dconst0 hx hb dX6_ratePerHour_86 ?_
    exact (xe_d hx hb hr hlocks hbase hh hK hX hS h (Nat.le_of_ble_eq_true rfl) (Nat.le_of_ble_eq_true rfl) dX6_ratePerHour_87)
  · replace h := h.2 c11
    refine lv_aload_n hx hb dX6_ratePerHour_66 rfl (lv_at hl 1 rfl) ?_
    refine lv_iload_n hx hb dX6_ratePerHour_67 rfl (lv_at hl 2 rfl) ?_
    refine lv_iload_n hx hb dX6_ratePerHour_68 rfl (lv_at hl 3 rfl) ?_
    refine lv_iload_n hx hb dX6_ratePerHour_69 rfl (lv_at hl 4 rfl) ?_
    obtain ⟨g12, h⟩ := h
    refine xc_l (va_runV (As := [.int l1, .int l2, .int l3]) (rest := []) ⟨hx, hb, hml, hown, hts⟩ (mt_X6_rises l G base h) (cwV 3 hts gX6_ratePerHour_X6_rises rfl rfl rfl (by decide +kernel) ⟨Nat.le_of_ble_eq_true rfl, Nat.le_of_ble_eq_true rfl⟩) (xp_V hbase hh hK hX hS (ci := 6) g12 (by decide) rfl) rfl rfl hl.1 rfl (lv_room (Nat.le_of_ble_eq_true rfl)) dX6_ratePerHour_70 ⟨Nat.le_of_ble_eq_true rfl, Nat.le_of_ble_eq_true rfl⟩) hS (fun r13 m14 H locs h hh hS => ?_)
    refine lv_l2d hx hb dX6_ratePerHour_73 ?_
    refine lv_ldc2d hx hb hown q1 dX6_ratePerHour_74 ?_
    obtain ⟨g15, h⟩ := h
    refine lv_dmul hx hb dX6_ratePerHour_77 g15 ?_
    refine lv_iload_n hx hb dX6_ratePerHour_78 rfl (lv_at hl 4 rfl) ?_
    refine lv_iload_n hx hb dX6_ratePerHour_79 rfl (lv_at hl 3 rfl) ?_
    refine lv_isub hx hb dX6_ratePerHour_80 ?_
    refine lv_i2d hx hb dX6_ratePerHour_81 ?_
    obtain ⟨g16, h⟩ := h
    refine lv_ddiv hx hb dX6_ratePerHour_82 g16 ?_
    refine lv_goto (tgt := 87) hx hb dX6_ratePerHour_83 (by decide) ?_
    exact (xe_d hx hb hr hlocks hbase hh hK hX hS h (Nat.le_of_ble_eq_true rfl) (Nat.le_of_ble_eq_true rfl) dX6_ratePerHour_87)

set_option maxHeartbeats 4000000 in
set_option maxRecDepth 100000 in
theorem bk_X6_ratePerHour_28 {p : Program} {l : Launch} {e : Env} {s : State} {m : MethodId} {args : Array Value} {below : List Frame} {meth : Method} {c : Code} {G : GG} {base : Nat} (C0 : BC p s m args meth c G base RX6 cX6_ratePerHour 5 (some .double) wsX6_ratePerHour) {Q : UInt64 → MM → Prop} : ∀ (l0 : Nat) (l1 : Int32) (l2 : Int32) (l3 : Int32) (s0 : Nat) (m0 : MM) (H : Heap) (locs : List Loc) (ls : Array Slot), wp_X6_ratePerHour_28 Q l0 l1 l2 l3 s0 m0 → hp G (xA base) m0 H → va_S (xA base) s.heap H locs → lv_has ls 5 [(0, .ref l0), (1, .int l1), (2, .int l2), (3, .int l3)] → W p l e ({ frames := 3, cells := 0, slots := 0, locals := 90 } : Room) s m args below meth c H locs 0 0 (MQ below (va_Qd Q (HB G base) (xA base)) args s 0 0 (xA base)) (F0 m 28 ls [.ref s0]) := by
  obtain ⟨hx, hb, hr, hml, hown, hts, hlocks, hK, hbase, hX⟩ := id C0
  intro l0 l1 l2 l3 s0 m0 H locs ls h hh hS hl
  unfold wp_X6_ratePerHour_28 at h
  refine lv_iconst (v := 2) hx hb dX6_ratePerHour_28 (by decide) ?_
  refine lv_goto (tgt := 56) hx hb dX6_ratePerHour_29 (by decide) ?_
  exact bk_X6_ratePerHour_56 C0  _ _ _ _ _ _ _ _ _ _ h hh hS (lv_sub hl [0, 1, 2, 3] rfl)

set_option maxHeartbeats 4000000 in
set_option maxRecDepth 100000 in
theorem bk_X6_ratePerHour_51 {p : Program} {l : Launch} {e : Env} {s : State} {m : MethodId} {args : Array Value} {below : List Frame} {meth : Method} {c : Code} {G : GG} {base : Nat} (C0 : BC p s m args meth c G base RX6 cX6_ratePerHour 5 (some .double) wsX6_ratePerHour) {Q : UInt64 → MM → Prop} : ∀ (l0 : Nat) (l1 : Int32) (l2 : Int32) (l3 : Int32) (s0 : Nat) (m0 : MM) (H : Heap) (locs : List Loc) (ls : Array Slot), wp_X6_ratePerHour_51 Q l0 l1 l2 l3 s0 m0 → hp G (xA base) m0 H → va_S (xA base) s.heap H locs → lv_has ls 5 [(0, .ref l0), (1, .int l1), (2, .int l2), (3, .int l3)] → W p l e ({ frames := 3, cells := 0, slots := 0, locals := 90 } : Room) s m args below meth c H locs 0 0 (MQ below (va_Qd Q (HB G base) (xA base)) args s 0 0 (xA base)) (F0 m 51 ls [.ref s0]) := by
  obtain ⟨hx, hb, hr, hml, hown, hts, hlocks, hK, hbase, hX⟩ := id C0
  intro l0 l1 l2 l3 s0 m0 H locs ls h hh hS hl
  unfold wp_X6_ratePerHour_51 at h
  refine lv_iconst (v := 3) hx hb dX6_ratePerHour_51 (by decide) ?_
  refine lv_goto (tgt := 56) hx hb dX6_ratePerHour_52 (by decide) ?_
  exact bk_X6_ratePerHour_56 C0  _ _ _ _ _ _ _ _ _ _ h hh hS (lv_sub hl [0, 1, 2, 3] rfl)

set_option maxHeartbeats 4000000 in
set_option maxRecDepth 100000 in
theorem mt_X6_ratePerHour (l : Launch) (G : GG) (base : Nat) {a0 : Nat} {p1 : Int32} {p2 : Int32} {p3 : Int32} {m0 : MM} {Q : UInt64 → MM → Prop} (h : wp_X6_ratePerHour a0 p1 p2 p3 m0 Q) : Met l yX6_ratePerHour wsX6_ratePerHour ({ frames := 3, cells := 0, slots := 0, locals := 90 }) (va_Pc [.ref a0, .int p1, .int p2, .int p3] (SP G base m0)) (va_Qd Q (HB G base) (xA base)) 0 0 (xA base) := by
  refine Met.ofW (cc := cX6_ratePerHour) (maxL := 5) (ret := (some .double)) (by decide) rfl ?_
  intro p e s m args below meth c s₁ B hml hv
  obtain ⟨rfl, hbase, hh, hK, hX⟩ := hv
  have C0 : BC p s m _ meth c G base RX6 cX6_ratePerHour 5 (some .double) wsX6_ratePerHour := ⟨B.exec, B.bytes, B.returns, hml, findClass_of_methodNamed B.named, atoms_spec (ws := wsX6_ratePerHour) B.pre, B.notSynchronized, hK, hbase, hX⟩
  obtain ⟨hx, hb, hr, -, hown, hts, hlocks, -, -, -⟩ := id C0
  have hS : va_S (xA base) s.heap s.heap [] := va_S.rf
  have hl := lv_entry ([.ref a0, .int p1, .int p2, .int p3]) (n := 5) (Nat.le_of_ble_eq_true rfl)
  rw [lg_entry_eq]
  generalize (lg_sl ([.ref a0, .int p1, .int p2, .int p3]) ++ List.replicate (5 - (lg_sl ([.ref a0, .int p1, .int p2, .int p3])).length) Slot.unset).toArray = ls at hl ⊢
  have hl : lv_has ls 5 [(0, .ref a0), (1, .int p1), (2, .int p2), (3, .int p3)] := hl
  unfold wp_X6_ratePerHour at h
  have hL6 : ∀ w ∈ u_ws RX6 TX6 17, w.before _ s = true := fun w h9 => hts w (List.mem_cons_of_mem _ (List.mem_append_right _ (h9)))
  have q2 : (Cond.fieldLink RX6 7 "RollupStoreModel" "kind" "[I").before _ s = true := hts _ (List.mem_cons_of_mem _ (List.mem_append_left _ (List.mem_append_left _ (List.mem_of_getElem? (i := 0) rfl))))
  refine lv_aload_n hx hb dX6_ratePerHour_0 rfl (lv_at hl 0 rfl) ?_
  refine lv_aload_n hx hb dX6_ratePerHour_1 rfl (lv_at hl 0 rfl) ?_
  refine lv_iload_n hx hb dX6_ratePerHour_2 rfl (lv_at hl 1 rfl) ?_
  obtain ⟨g1, h⟩ := h
  refine xc_i (va_runV (As := [.int p1]) (rest := [.ref a0]) ⟨hx, hb, hml, hown, hts⟩ (mt_X6_isSeries l G base h) (cwV 1 hts gX6_ratePerHour_X6_isSeries rfl rfl rfl (by decide +kernel) ⟨Nat.le_of_ble_eq_true rfl, Nat.le_of_ble_eq_true rfl⟩) (xp_V hbase hh hK hX hS (ci := 6) g1 (by decide) rfl) rfl rfl hl.1 rfl (lv_room (Nat.le_of_ble_eq_true rfl)) dX6_ratePerHour_3 ⟨Nat.le_of_ble_eq_true rfl, Nat.le_of_ble_eq_true rfl⟩) hS (fun r2 m3 H locs h hh hS => ?_)
  refine lv_if_ne (tgt := 13) hx hb dX6_ratePerHour_6 (by decide) (fun c4 => ?_) (fun c4 => ?_)
  · replace h := h.1 c4
    refine lv_iload_n hx hb dX6_ratePerHour_13 rfl (lv_at hl 2 rfl) ?_
    refine lv_iload_n hx hb dX6_ratePerHour_14 rfl (lv_at hl 3 rfl) ?_
    refine lv_bipush (v := 60) hx hb dX6_ratePerHour_15 (by decide) ?_
    refine xc_i (va_runS (As := [.int p2, .int p3, .int (60 : Int32)]) (rest := [.ref a0]) ⟨hx, hb, hml, hown, hts⟩ (mt_X6_isWindow l G base h) (va_cwS 3 hts gX6_ratePerHour_X6_isWindow rfl rfl rfl (by decide +kernel) ⟨Nat.le_of_ble_eq_true rfl, Nat.le_of_ble_eq_true rfl⟩) (xp_S hbase hh hK hX hS) rfl rfl hl.1 rfl (lv_room (Nat.le_of_ble_eq_true rfl)) dX6_ratePerHour_17 ⟨Nat.le_of_ble_eq_true rfl, Nat.le_of_ble_eq_true rfl⟩) hS (fun r5 m6 H locs h hh hS => ?_)
    refine lv_if_eq (tgt := 28) hx hb dX6_ratePerHour_20 (by decide) (fun c7 => ?_) (fun c7 => ?_)
    · replace h := h.1 c7
      exact bk_X6_ratePerHour_28 C0  _ _ _ _ _ _ _ _ _ h hh hS (lv_sub hl [0, 1, 2, 3] rfl)
    · replace h := h.2 c7
      refine lv_iload_n hx hb dX6_ratePerHour_23 rfl (lv_at hl 2 rfl) ?_
      refine lv_iload_n hx hb dX6_ratePerHour_24 rfl (lv_at hl 3 rfl) ?_
      refine lv_icmp_ne (tgt := 32) hx hb dX6_ratePerHour_25 (by decide) (fun c17 => ?_) (fun c17 => ?_)
      · replace h := h.1 c17
        refine lv_aload_n hx hb dX6_ratePerHour_32 rfl (lv_at hl 0 rfl) ?_
        obtain ⟨g18, h⟩ := h
        obtain ⟨b19, eb19, h⟩ := h
        refine xr_getR (ci := 6) (C := RX6) (T := TX6) (N := 17) hx hb hL6 hown hK hh g18 (by decide) rfl 3 123 rfl rfl (by decide) (by decide) q2 (fun _ h9 => h9) eb19 dX6_ratePerHour_33 ?_
        refine lv_iload_n hx hb dX6_ratePerHour_36 rfl (lv_at hl 1 rfl) ?_
        obtain ⟨g20, h⟩ := h
        obtain ⟨g21, h⟩ := h
        refine xr_iald hx hb hK hh g20 g21 dX6_ratePerHour_37 ?_
        refine lv_iconst (v := 1) hx hb dX6_ratePerHour_38 (by decide) ?_
        refine lv_icmp_ne (tgt := 51) hx hb dX6_ratePerHour_39 (by decide) (fun c22 => ?_) (fun c22 => ?_)
        · replace h := h.1 c22
          exact bk_X6_ratePerHour_51 C0  _ _ _ _ _ _ _ _ _ h hh hS (lv_sub hl [0, 1, 2, 3] rfl)
        · replace h := h.2 c22
          refine lv_aload_n hx hb dX6_ratePerHour_42 rfl (lv_at hl 0 rfl) ?_
          refine lv_iload_n hx hb dX6_ratePerHour_43 rfl (lv_at hl 2 rfl) ?_
          refine lv_iload_n hx hb dX6_ratePerHour_44 rfl (lv_at hl 3 rfl) ?_
          obtain ⟨g23, h⟩ := h
          refine xc_i (va_runV (As := [.int p2, .int p3]) (rest := [.ref a0]) ⟨hx, hb, hml, hown, hts⟩ (mt_X6_knows l G base h) (cwV 2 hts gX6_ratePerHour_X6_knows rfl rfl rfl (by decide +kernel) ⟨Nat.le_of_ble_eq_true rfl, Nat.le_of_ble_eq_true rfl⟩) (xp_V hbase hh hK hX hS (ci := 6) g23 (by decide) rfl) rfl rfl hl.1 rfl (lv_room (Nat.le_of_ble_eq_true rfl)) dX6_ratePerHour_45 ⟨Nat.le_of_ble_eq_true rfl, Nat.le_of_ble_eq_true rfl⟩) hS (fun r24 m25 H locs h hh hS => ?_)
          refine lv_if_ne (tgt := 55) hx hb dX6_ratePerHour_48 (by decide) (fun c26 => ?_) (fun c26 => ?_)
          · replace h := h.1 c26
            refine lv_iconst (v := 0) hx hb dX6_ratePerHour_55 (by decide) ?_
            exact bk_X6_ratePerHour_56 C0  _ _ _ _ _ _ _ _ _ _ h hh hS (lv_sub hl [0, 1, 2, 3] rfl)
          · replace h := h.2 c26
            exact bk_X6_ratePerHour_51 C0  _ _ _ _ _ _ _ _ _ h hh hS (lv_sub hl [0, 1, 2, 3] rfl)
      · replace h := h.2 c17
        exact bk_X6_ratePerHour_28 C0  _ _ _ _ _ _ _ _ _ h hh hS (lv_sub hl [0, 1, 2, 3] rfl)
  · replace h := h.2 c4
    refine lv_iconst (v := 1) hx hb dX6_ratePerHour_9 (by decide) ?_
    refine lv_goto (tgt := 56) hx hb dX6_ratePerHour_10 (by decide) ?_
    exact bk_X6_ratePerHour_56 C0  _ _ _ _ _ _ _ _ _ _ h hh hS (lv_sub hl [0, 1, 2, 3] rfl)

set_option maxHeartbeats 4000000 in
set_option maxRecDepth 100000 in
theorem bk_X6_gaps_98 {p : Program} {l : Launch} {e : Env} {s : State} {m : MethodId} {args : Array Value} {below : List Frame} {meth : Method} {c : Code} {G : GG} {base : Nat} (C0 : BC p s m args meth c G base RX6 cX6_gaps 9 (some .int) wsX6_gaps) {Q : Int32 → MM → Prop} : ∀ (n : Nat) (l0 : Nat) (l1 : Int32) (l2 : Int32) (l4 : Int32) (l6 : Int32) (l7 : Int32) (l8 : Int32) (m0 : MM) (H : Heap) (locs : List Loc) (ls : Array Slot), wp_X6_gaps_98 Q n l0 l1 l2 l4 l6 l7 l8 m0 → hp G (xA base) m0 H → va_S (xA base) s.heap H locs → lv_has ls 9 [(0, .ref l0), (1, .int l1), (2, .int l2), (4, .int l4), (6, .int l6), (7, .int l7), (8, .int l8)] → W p l e ({ frames := 3, cells := 0, slots := 0, locals := 74 } : Room) s m args below meth c H locs 0 0 (MQ below (va_Qi Q (HB G base) (xA base)) args s 0 0 (xA base)) (F0 m 98 ls []) := by
  obtain ⟨hx, hb, hr, hml, hown, hts, hlocks, hK, hbase, hX⟩ := id C0
  intro n
  induction n with
  | zero =>
    intro l0 l1 l2 l4 l6 l7 l8 m0 H locs ls h
    unfold wp_X6_gaps_98 at h
    exact h.elim
  | succ n ih =>
    intro l0 l1 l2 l4 l6 l7 l8 m0 H locs ls h hh hS hl
    unfold wp_X6_gaps_98 at h
    have hL6 : ∀ w ∈ u_ws RX6 TX6 17, w.before _ s = true := fun w h9 => hts w (List.mem_cons_of_mem _ (List.mem_append_right _ (h9)))
    have q2 : (Cond.fieldLink RX6 46 "RollupStoreModel" "all" "I").before _ s = true := hts _ (List.mem_cons_of_mem _ (List.mem_append_left _ (List.mem_append_left _ (List.mem_of_getElem? (i := 1) rfl))))
    have q3 : (Cond.fieldLink RX6 19 "RollupStoreModel" "who" "[I").before _ s = true := hts _ (List.mem_cons_of_mem _ (List.mem_append_left _ (List.mem_append_left _ (List.mem_of_getElem? (i := 2) rfl))))
    have q4 : (Cond.fieldLink RX6 22 "RollupStoreModel" "time" "[I").before _ s = true := hts _ (List.mem_cons_of_mem _ (List.mem_append_left _ (List.mem_append_left _ (List.mem_of_getElem? (i := 3) rfl))))
    refine lv_iload hx hb dX6_gaps_98 (lv_at hl 6 rfl) ?_
    refine lv_aload_n hx hb dX6_gaps_100 rfl (lv_at hl 0 rfl) ?_
    obtain ⟨g22, h⟩ := h
    refine xr_getI (ci := 6) (C := RX6) (T := TX6) (N := 17) hx hb hL6 hown hK hh g22 (by decide) rfl 2 122 rfl rfl (by decide) (by decide) q2 (fun _ h9 => h9) dX6_gaps_101 ?_
    refine lv_icmp_ge (tgt := 172) hx hb dX6_gaps_104 (by decide) (fun c23 => ?_) (fun c23 => ?_)
    · replace h := h.1 c23
      refine lv_iload hx hb dX6_gaps_172 (lv_at hl 5 rfl) ?_
      exact (xe_i hx hb hr hlocks hbase hh hK hX hS h (Nat.le_of_ble_eq_true rfl) (Nat.le_of_ble_eq_true rfl) dX6_gaps_174)
    · replace h := h.2 c23
      refine lv_iload hx hb dX6_gaps_107 (lv_at hl 5 rfl) ?_
      refine lv_aload_n hx hb dX6_gaps_109 rfl (lv_at hl 0 rfl) ?_
      obtain ⟨g24, h⟩ := h
      obtain ⟨b25, eb25, h⟩ := h
      refine xr_getR (ci := 6) (C := RX6) (T := TX6) (N := 17) hx hb hL6 hown hK hh g24 (by decide) rfl 6 126 rfl rfl (by decide) (by decide) q3 (fun _ h9 => h9) eb25 dX6_gaps_110 ?_
      refine lv_iload hx hb dX6_gaps_113 (lv_at hl 6 rfl) ?_
      obtain ⟨g26, h⟩ := h
      obtain ⟨g27, h⟩ := h
      refine xr_iald hx hb hK hh g26 g27 dX6_gaps_115 ?_
      refine lv_iload_n hx hb dX6_gaps_116 rfl (lv_at hl 1 rfl) ?_
      refine lv_icmp_ne (tgt := 162) hx hb dX6_gaps_117 (by decide) (fun c28 => ?_) (fun c28 => ?_)
      · replace h := h.1 c28
        refine lv_iconst (v := 0) hx hb dX6_gaps_162 (by decide) ?_
        refine lv_isub hx hb dX6_gaps_163 ?_
        refine lv_topi (fun x29 ex29 => ?_)
        replace h := h x29 ex29
        refine lv_istore (lv' := [(7, .int x29), (0, .ref l0), (1, .int l1), (2, .int l2), (4, .int l4), (6, .int l6), (8, .int l8)]) hx hb dX6_gaps_164 hl (by decide) rfl (fun ls hl => ?_)
        obtain ⟨x30, ex30⟩ : ∃ y : Int32, y = l8 + 1 := ⟨_, rfl⟩
        replace h := h x30 ex30
        refine lv_iinc (v := x30) (lv' := [(8, .int x30), (7, .int x29), (0, .ref l0), (1, .int l1), (2, .int l2), (4, .int l4), (6, .int l6)]) hx hb dX6_gaps_166 hl (k := 6) rfl (by rw [ex30]; rfl) (by decide) rfl (fun ls hl => ?_)
        refine lv_goto (tgt := 98) hx hb dX6_gaps_169 (by decide) ?_
        exact ih _ _ _ _ _ _ _ _ _ _ _ h hh hS (lv_sub hl [2, 3, 4, 5, 6, 1, 0] rfl)
      · replace h := h.2 c28
        refine lv_iload_n hx hb dX6_gaps_120 rfl (lv_at hl 2 rfl) ?_
        refine lv_if_eq (tgt := 162) hx hb dX6_gaps_121 (by decide) (fun c31 => ?_) (fun c31 => ?_)
        · replace h := h.1 c31
          refine lv_iconst (v := 0) hx hb dX6_gaps_162 (by decide) ?_
          refine lv_isub hx hb dX6_gaps_163 ?_
          refine lv_topi (fun x32 ex32 => ?_)
          replace h := h x32 ex32
          refine lv_istore (lv' := [(7, .int x32), (0, .ref l0), (1, .int l1), (2, .int l2), (4, .int l4), (6, .int l6), (8, .int l8)]) hx hb dX6_gaps_164 hl (by decide) rfl (fun ls hl => ?_)
          obtain ⟨x33, ex33⟩ : ∃ y : Int32, y = l8 + 1 := ⟨_, rfl⟩
          replace h := h x33 ex33
          refine lv_iinc (v := x33) (lv' := [(8, .int x33), (7, .int x32), (0, .ref l0), (1, .int l1), (2, .int l2), (4, .int l4), (6, .int l6)]) hx hb dX6_gaps_166 hl (k := 6) rfl (by rw [ex33]; rfl) (by decide) rfl (fun ls hl => ?_)
          refine lv_goto (tgt := 98) hx hb dX6_gaps_169 (by decide) ?_
          exact ih _ _ _ _ _ _ _ _ _ _ _ h hh hS (lv_sub hl [2, 3, 4, 5, 6, 1, 0] rfl)
        · replace h := h.2 c31
          refine lv_aload_n hx hb dX6_gaps_124 rfl (lv_at hl 0 rfl) ?_
          refine lv_iload hx hb dX6_gaps_125 (lv_at hl 6 rfl) ?_
          refine lv_iload_n hx hb dX6_gaps_127 rfl (lv_at hl 2 rfl) ?_
          obtain ⟨g34, h⟩ := h
          refine xc_i (va_runV (As := [.int l8, .int l2]) (rest := [.int l7]) ⟨hx, hb, hml, hown, hts⟩ (mt_X6_begins l G base h) (cwV 2 hts gX6_gaps_X6_begins rfl rfl rfl (by decide +kernel) ⟨Nat.le_of_ble_eq_true rfl, Nat.le_of_ble_eq_true rfl⟩) (xp_V hbase hh hK hX hS (ci := 6) g34 (by decide) rfl) rfl rfl hl.1 rfl (lv_room (Nat.le_of_ble_eq_true rfl)) dX6_gaps_128 ⟨Nat.le_of_ble_eq_true rfl, Nat.le_of_ble_eq_true rfl⟩) hS (fun r35 m36 H locs h hh hS => ?_)
          refine lv_if_eq (tgt := 162) hx hb dX6_gaps_131 (by decide) (fun c37 => ?_) (fun c37 => ?_)
          · replace h := h.1 c37
            refine lv_iconst (v := 0) hx hb dX6_gaps_162 (by decide) ?_
            refine lv_isub hx hb dX6_gaps_163 ?_
            refine lv_topi (fun x38 ex38 => ?_)
            replace h := h x38 ex38
            refine lv_istore (lv' := [(7, .int x38), (0, .ref l0), (1, .int l1), (2, .int l2), (4, .int l4), (6, .int l6), (8, .int l8)]) hx hb dX6_gaps_164 hl (by decide) rfl (fun ls hl => ?_)
            obtain ⟨x39, ex39⟩ : ∃ y : Int32, y = l8 + 1 := ⟨_, rfl⟩
            replace h := h x39 ex39
            refine lv_iinc (v := x39) (lv' := [(8, .int x39), (7, .int x38), (0, .ref l0), (1, .int l1), (2, .int l2), (4, .int l4), (6, .int l6)]) hx hb dX6_gaps_166 hl (k := 6) rfl (by rw [ex39]; rfl) (by decide) rfl (fun ls hl => ?_)
            refine lv_goto (tgt := 98) hx hb dX6_gaps_169 (by decide) ?_
            exact ih _ _ _ _ _ _ _ _ _ _ _ h hh hS (lv_sub hl [2, 3, 4, 5, 6, 1, 0] rfl)
          · replace h := h.2 c37
            refine lv_aload_n hx hb dX6_gaps_134 rfl (lv_at hl 0 rfl) ?_
            obtain ⟨g40, h⟩ := h
            obtain ⟨b41, eb41, h⟩ := h
            refine xr_getR (ci := 6) (C := RX6) (T := TX6) (N := 17) hx hb hL6 hown hK hh g40 (by decide) rfl 7 127 rfl rfl (by decide) (by decide) q4 (fun _ h9 => h9) eb41 dX6_gaps_135 ?_
            refine lv_iload hx hb dX6_gaps_138 (lv_at hl 6 rfl) ?_
            obtain ⟨g42, h⟩ := h
            obtain ⟨g43, h⟩ := h
            refine xr_iald hx hb hK hh g42 g43 dX6_gaps_140 ?_
            refine lv_iload hx hb dX6_gaps_141 (lv_at hl 4 rfl) ?_
            refine lv_icmp_lt (tgt := 162) hx hb dX6_gaps_143 (by decide) (fun c44 => ?_) (fun c44 => ?_)
            · replace h := h.1 c44
              refine lv_iconst (v := 0) hx hb dX6_gaps_162 (by decide) ?_
              refine lv_isub hx hb dX6_gaps_163 ?_
              refine lv_topi (fun x45 ex45 => ?_)
              replace h := h x45 ex45
              refine lv_istore (lv' := [(7, .int x45), (0, .ref l0), (1, .int l1), (2, .int l2), (4, .int l4), (6, .int l6), (8, .int l8)]) hx hb dX6_gaps_164 hl (by decide) rfl (fun ls hl => ?_)
              obtain ⟨x46, ex46⟩ : ∃ y : Int32, y = l8 + 1 := ⟨_, rfl⟩
              replace h := h x46 ex46
              refine lv_iinc (v := x46) (lv' := [(8, .int x46), (7, .int x45), (0, .ref l0), (1, .int l1), (2, .int l2), (4, .int l4), (6, .int l6)]) hx hb dX6_gaps_166 hl (k := 6) rfl (by rw [ex46]; rfl) (by decide) rfl (fun ls hl => ?_)
              refine lv_goto (tgt := 98) hx hb dX6_gaps_169 (by decide) ?_
              exact ih _ _ _ _ _ _ _ _ _ _ _ h hh hS (lv_sub hl [2, 3, 4, 5, 6, 1, 0] rfl)
            · replace h := h.2 c44
              refine lv_aload_n hx hb dX6_gaps_146 rfl (lv_at hl 0 rfl) ?_
              obtain ⟨g47, h⟩ := h
              obtain ⟨b48, eb48, h⟩ := h
              refine xr_getR (ci := 6) (C := RX6) (T := TX6) (N := 17) hx hb hL6 hown hK hh g47 (by decide) rfl 7 127 rfl rfl (by decide) (by decide) q4 (fun _ h9 => h9) eb48 dX6_gaps_147 ?_
              refine lv_iload hx hb dX6_gaps_150 (lv_at hl 6 rfl) ?_
              obtain ⟨g49, h⟩ := h
              obtain ⟨g50, h⟩ := h
              refine xr_iald hx hb hK hh g49 g50 dX6_gaps_152 ?_
              refine lv_iload hx hb dX6_gaps_153 (lv_at hl 3 rfl) ?_
              refine lv_icmp_ge (tgt := 162) hx hb dX6_gaps_155 (by decide) (fun c51 => ?_) (fun c51 => ?_)
              · replace h := h.1 c51
                refine lv_iconst (v := 0) hx hb dX6_gaps_162 (by decide) ?_
                refine lv_isub hx hb dX6_gaps_163 ?_
                refine lv_topi (fun x52 ex52 => ?_)
                replace h := h x52 ex52
                refine lv_istore (lv' := [(7, .int x52), (0, .ref l0), (1, .int l1), (2, .int l2), (4, .int l4), (6, .int l6), (8, .int l8)]) hx hb dX6_gaps_164 hl (by decide) rfl (fun ls hl => ?_)
                obtain ⟨x53, ex53⟩ : ∃ y : Int32, y = l8 + 1 := ⟨_, rfl⟩
                replace h := h x53 ex53
                refine lv_iinc (v := x53) (lv' := [(8, .int x53), (7, .int x52), (0, .ref l0), (1, .int l1), (2, .int l2), (4, .int l4), (6, .int l6)]) hx hb dX6_gaps_166 hl (k := 6) rfl (by rw [ex53]; rfl) (by decide) rfl (fun ls hl => ?_)
                refine lv_goto (tgt := 98) hx hb dX6_gaps_169 (by decide) ?_
                exact ih _ _ _ _ _ _ _ _ _ _ _ h hh hS (lv_sub hl [2, 3, 4, 5, 6, 1, 0] rfl)
              · replace h := h.2 c51
                refine lv_iconst (v := 1) hx hb dX6_gaps_158 (by decide) ?_
                refine lv_goto (tgt := 163) hx hb dX6_gaps_159 (by decide) ?_
                refine lv_isub hx hb dX6_gaps_163 ?_
                refine lv_topi (fun x54 ex54 => ?_)
                replace h := h x54 ex54
                refine lv_istore (lv' := [(7, .int x54), (0, .ref l0), (1, .int l1), (2, .int l2), (4, .int l4), (6, .int l6), (8, .int l8)]) hx hb dX6_gaps_164 hl (by decide) rfl (fun ls hl => ?_)
                obtain ⟨x55, ex55⟩ : ∃ y : Int32, y = l8 + 1 := ⟨_, rfl⟩
                replace h := h x55 ex55
                refine lv_iinc (v := x55) (lv' := [(8, .int x55), (7, .int x54), (0, .ref l0), (1, .int l1), (2, .int l2), (4, .int l4), (6, .int l6)]) hx hb dX6_gaps_166 hl (k := 6) rfl (by rw [ex55]; rfl) (by decide) rfl (fun ls hl => ?_)
                refine lv_goto (tgt := 98) hx hb dX6_gaps_169 (by decide) ?_
                exact ih _ _ _ _ _ _ _ _ _ _ _ h hh hS (lv_sub hl [2, 3, 4, 5, 6, 1, 0] rfl)

set_option maxHeartbeats 4000000 in
set_option maxRecDepth 100000 in
theorem bk_X6_gaps_70 {p : Program} {l : Launch} {e : Env} {s : State} {m : MethodId} {args : Array Value} {below : List Frame} {meth : Method} {c : Code} {G : GG} {base : Nat} (C0 : BC p s m args meth c G base RX6 cX6_gaps 9 (some .int) wsX6_gaps) {Q : Int32 → MM → Prop} : ∀ (l0 : Nat) (l1 : Int32) (l2 : Int32) (l4 : Int32) (s0 : Int32) (m0 : MM) (H : Heap) (locs : List Loc) (ls : Array Slot), wp_X6_gaps_70 Q l0 l1 l2 l4 s0 m0 → hp G (xA base) m0 H → va_S (xA base) s.heap H locs → lv_has ls 9 [(0, .ref l0), (1, .int l1), (2, .int l2), (4, .int l4)] → W p l e ({ frames := 3, cells := 0, slots := 0, locals := 74 } : Room) s m args below meth c H locs 0 0 (MQ below (va_Qi Q (HB G base) (xA base)) args s 0 0 (xA base)) (F0 m 70 ls [.int s0]) := by
  obtain ⟨hx, hb, hr, hml, hown, hts, hlocks, hK, hbase, hX⟩ := id C0
  intro l0 l1 l2 l4 s0 m0 H locs ls h hh hS hl
  unfold wp_X6_gaps_70 at h
  refine lv_istore (lv' := [(6, .int s0), (0, .ref l0), (1, .int l1), (2, .int l2), (4, .int l4)]) hx hb dX6_gaps_70 hl (by decide) rfl (fun ls hl => ?_)
  refine lv_iload hx hb dX6_gaps_72 (lv_at hl 0 rfl) ?_
  refine lv_iload hx hb dX6_gaps_74 (lv_at hl 4 rfl) ?_
  refine lv_icmp_ge (tgt := 92) hx hb dX6_gaps_76 (by decide) (fun c19 => ?_) (fun c19 => ?_)
  · replace h := h.1 c19
    refine lv_iconst (v := 0) hx hb dX6_gaps_92 (by decide) ?_
    refine lv_topi (fun x20 ex20 => ?_)
    replace h := h x20 ex20
    refine lv_istore (lv' := [(7, .int x20), (6, .int s0), (0, .ref l0), (1, .int l1), (2, .int l2), (4, .int l4)]) hx hb dX6_gaps_93 hl (by decide) rfl (fun ls hl => ?_)
    refine lv_iconst (v := 0) hx hb dX6_gaps_95 (by decide) ?_
    refine lv_topi (fun x21 ex21 => ?_)
    replace h := h x21 ex21
    refine lv_istore (lv' := [(8, .int x21), (7, .int x20), (6, .int s0), (0, .ref l0), (1, .int l1), (2, .int l2), (4, .int l4)]) hx hb dX6_gaps_96 hl (by decide) rfl (fun ls hl => ?_)
    obtain ⟨n9, h⟩ := h
    exact bk_X6_gaps_98 C0  n9 _ _ _ _ _ _ _ _ _ _ _ h hh hS (lv_sub hl [3, 4, 5, 6, 2, 1, 0] rfl)
  · replace h := h.2 c19
    refine lv_iload hx hb dX6_gaps_79 (lv_at hl 4 rfl) ?_
    refine lv_iload hx hb dX6_gaps_81 (lv_at hl 0 rfl) ?_
    refine lv_isub hx hb dX6_gaps_83 ?_
    refine lv_iload_n hx hb dX6_gaps_84 rfl (lv_at hl 3 rfl) ?_
    refine xc_i (va_runS (As := [.int l2]) (rest := [.int (l4 - s0)]) ⟨hx, hb, hml, hown, hts⟩ (mt_X6_length l G base h) (va_cwS 1 hts gX6_gaps_X6_length rfl rfl rfl (by decide +kernel) ⟨Nat.le_of_ble_eq_true rfl, Nat.le_of_ble_eq_true rfl⟩) (xp_S hbase hh hK hX hS) rfl rfl hl.1 rfl (lv_room (Nat.le_of_ble_eq_true rfl)) dX6_gaps_85 ⟨Nat.le_of_ble_eq_true rfl, Nat.le_of_ble_eq_true rfl⟩) hS (fun r56 m57 H locs h hh hS => ?_)
    obtain ⟨g58, h⟩ := h
    refine lv_idiv hx hb dX6_gaps_88 g58 ?_
    refine lv_goto (tgt := 93) hx hb dX6_gaps_89 (by decide) ?_
    refine lv_topi (fun x59 ex59 => ?_)
    replace h := h x59 ex59
    refine lv_istore (lv' := [(7, .int x59), (6, .int s0), (0, .ref l0), (1, .int l1), (2, .int l2), (4, .int l4)]) hx hb dX6_gaps_93 hl (by decide) rfl (fun ls hl => ?_)
    refine lv_iconst (v := 0) hx hb dX6_gaps_95 (by decide) ?_
    refine lv_topi (fun x60 ex60 => ?_)
    replace h := h x60 ex60
    refine lv_istore (lv' := [(8, .int x60), (7, .int x59), (6, .int s0), (0, .ref l0), (1, .int l1), (2, .int l2), (4, .int l4)]) hx hb dX6_gaps_96 hl (by decide) rfl (fun ls hl => ?_)
    obtain ⟨n9, h⟩ := h
    exact bk_X6_gaps_98 C0  n9 _ _ _ _ _ _ _ _ _ _ _ h hh hS (lv_sub hl [3, 4, 5, 6, 2, 1, 0] rfl)

set_option maxHeartbeats 4000000 in
set_option maxRecDepth 100000 in
theorem bk_X6_gaps_38 {p : Program} {l : Launch} {e : Env} {s : State} {m : MethodId} {args : Array Value} {below : List Frame} {meth : Method} {c : Code} {G : GG} {base : Nat} (C0 : BC p s m args meth c G base RX6 cX6_gaps 9 (some .int) wsX6_gaps) {Q : Int32 → MM → Prop} : ∀ (l0 : Nat) (l1 : Int32) (l2 : Int32) (l3 : Int32) (l4 : Int32) (s0 : Int32) (s1 : Nat) (m0 : MM) (H : Heap) (locs : List Loc) (ls : Array Slot), wp_X6_gaps_38 Q l0 l1 l2 l3 l4 s0 s1 m0 → hp G (xA base) m0 H → va_S (xA base) s.heap H locs → lv_has ls 9 [(0, .ref l0), (1, .int l1), (2, .int l2), (3, .int l3), (4, .int l4)] → W p l e ({ frames := 3, cells := 0, slots := 0, locals := 74 } : Room) s m args below meth c H locs 0 0 (MQ below (va_Qi Q (HB G base) (xA base)) args s 0 0 (xA base)) (F0 m 38 ls [.int s0, .ref s1]) := by
  obtain ⟨hx, hb, hr, hml, hown, hts, hlocks, hK, hbase, hX⟩ := id C0
  intro l0 l1 l2 l3 l4 s0 s1 m0 H locs ls h hh hS hl
  unfold wp_X6_gaps_38 at h
  have hL6 : ∀ w ∈ u_ws RX6 TX6 17, w.before _ s = true := fun w h9 => hts w (List.mem_cons_of_mem _ (List.mem_append_right _ (h9)))
  have q2 : (Cond.fieldLink RX6 16 "RollupStoreModel" "horizon" "[I").before _ s = true := hts _ (List.mem_cons_of_mem _ (List.mem_append_left _ (List.mem_append_left _ (List.mem_of_getElem? (i := 0) rfl))))
  obtain ⟨g8, h⟩ := h
  refine xc_i (va_runV (As := [.int s0]) (rest := []) ⟨hx, hb, hml, hown, hts⟩ (mt_X6_can l G base h) (cwV 1 hts gX6_gaps_X6_can rfl rfl rfl (by decide +kernel) ⟨Nat.le_of_ble_eq_true rfl, Nat.le_of_ble_eq_true rfl⟩) (xp_V hbase hh hK hX hS (ci := 6) g8 (by decide) rfl) rfl rfl hl.1 rfl (lv_room (Nat.le_of_ble_eq_true rfl)) dX6_gaps_38 ⟨Nat.le_of_ble_eq_true rfl, Nat.le_of_ble_eq_true rfl⟩) hS (fun r9 m10 H locs h hh hS => ?_)
  refine lv_if_ne (tgt := 46) hx hb dX6_gaps_41 (by decide) (fun c11 => ?_) (fun c11 => ?_)
  · replace h := h.1 c11
    refine lv_iload_n hx hb dX6_gaps_46 rfl (lv_at hl 2 rfl) ?_
    refine lv_aload_n hx hb dX6_gaps_47 rfl (lv_at hl 0 rfl) ?_
    obtain ⟨g12, h⟩ := h
    obtain ⟨b13, eb13, h⟩ := h
    refine xr_getR (ci := 6) (C := RX6) (T := TX6) (N := 17) hx hb hL6 hown hK hh g12 (by decide) rfl 5 125 rfl rfl (by decide) (by decide) q2 (fun _ h9 => h9) eb13 dX6_gaps_48 ?_
    refine lv_iload_n hx hb dX6_gaps_51 rfl (lv_at hl 2 rfl) ?_
    obtain ⟨g14, h⟩ := h
    obtain ⟨g15, h⟩ := h
    refine xr_iald hx hb hK hh g14 g15 dX6_gaps_52 ?_
    refine xc_i (va_runS (As := [.int l2, .int (mAI m10 b13 l2.toNatClampNeg)]) (rest := []) ⟨hx, hb, hml, hown, hts⟩ (mt_X6_begin l G base h) (va_cwS 2 hts gX6_gaps_X6_begin rfl rfl rfl (by decide +kernel) ⟨Nat.le_of_ble_eq_true rfl, Nat.le_of_ble_eq_true rfl⟩) (xp_S hbase hh hK hX hS) rfl rfl hl.1 rfl (lv_room (Nat.le_of_ble_eq_true rfl)) dX6_gaps_53 ⟨Nat.le_of_ble_eq_true rfl, Nat.le_of_ble_eq_true rfl⟩) hS (fun r16 m17 H locs h hh hS => ?_)
    refine lv_istore (lv' := [(5, .int r16), (0, .ref l0), (1, .int l1), (2, .int l2), (3, .int l3), (4, .int l4)]) hx hb dX6_gaps_56 hl (by decide) rfl (fun ls hl => ?_)
    refine lv_iload hx hb dX6_gaps_58 (lv_at hl 0 rfl) ?_
    refine lv_iload_n hx hb dX6_gaps_60 rfl (lv_at hl 4 rfl) ?_
    refine lv_icmp_le (tgt := 69) hx hb dX6_gaps_61 (by decide) (fun c18 => ?_) (fun c18 => ?_)
    · replace h := h.1 c18
      refine lv_iload_n hx hb dX6_gaps_69 rfl (lv_at hl 4 rfl) ?_
      exact bk_X6_gaps_70 C0  _ _ _ _ _ _ _ _ _ h hh hS (lv_sub hl [1, 2, 3, 5] rfl)
    · replace h := h.2 c18
      refine lv_iload hx hb dX6_gaps_64 (lv_at hl 0 rfl) ?_
      refine lv_goto (tgt := 70) hx hb dX6_gaps_66 (by decide) ?_
      exact bk_X6_gaps_70 C0  _ _ _ _ _ _ _ _ _ h hh hS (lv_sub hl [1, 2, 3, 5] rfl)
  · replace h := h.2 c11
    refine lv_iconst (v := 0) hx hb dX6_gaps_44 (by decide) ?_
    exact (xe_i hx hb hr hlocks hbase hh hK hX hS h (Nat.le_of_ble_eq_true rfl) (Nat.le_of_ble_eq_true rfl) dX6_gaps_45)

set_option maxHeartbeats 4000000 in
set_option maxRecDepth 100000 in
theorem bk_X6_gaps_33 {p : Program} {l : Launch} {e : Env} {s : State} {m : MethodId} {args : Array Value} {below : List Frame} {meth : Method} {c : Code} {G : GG} {base : Nat} (C0 : BC p s m args meth c G base RX6 cX6_gaps 9 (some .int) wsX6_gaps) {Q : Int32 → MM → Prop} : ∀ (l0 : Nat) (l1 : Int32) (l2 : Int32) (l3 : Int32) (l4 : Int32) (s0 : Nat) (m0 : MM) (H : Heap) (locs : List Loc) (ls : Array Slot), wp_X6_gaps_33 Q l0 l1 l2 l3 l4 s0 m0 → hp G (xA base) m0 H → va_S (xA base) s.heap H locs → lv_has ls 9 [(0, .ref l0), (1, .int l1), (2, .int l2), (3, .int l3), (4, .int l4)] → W p l e ({ frames := 3, cells := 0, slots := 0, locals := 74 } : Room) s m args below meth c H locs 0 0 (MQ below (va_Qi Q (HB G base) (xA base)) args s 0 0 (xA base)) (F0 m 33 ls [.ref s0]) := by
  obtain ⟨hx, hb, hr, hml, hown, hts, hlocks, hK, hbase, hX⟩ := id C0
  intro l0 l1 l2 l3 l4 s0 m0 H locs ls h hh hS hl
  unfold wp_X6_gaps_33 at h
  refine lv_iconst (v := 2) hx hb dX6_gaps_33 (by decide) ?_
  refine lv_goto (tgt := 38) hx hb dX6_gaps_34 (by decide) ?_
  exact bk_X6_gaps_38 C0  _ _ _ _ _ _ _ _ _ _ _ h hh hS (lv_sub hl [0, 1, 2, 3, 4] rfl)

set_option maxHeartbeats 4000000 in
set_option maxRecDepth 100000 in
theorem mt_X6_gaps (l : Launch) (G : GG) (base : Nat) {a0 : Nat} {p1 : Int32} {p2 : Int32} {p3 : Int32} {p4 : Int32} {m0 : MM} {Q : Int32 → MM → Prop} (h : wp_X6_gaps a0 p1 p2 p3 p4 m0 Q) : Met l yX6_gaps wsX6_gaps ({ frames := 3, cells := 0, slots := 0, locals := 74 }) (va_Pc [.ref a0, .int p1, .int p2, .int p3, .int p4] (SP G base m0)) (va_Qi Q (HB G base) (xA base)) 0 0 (xA base) := by
  refine Met.ofW (cc := cX6_gaps) (maxL := 9) (ret := (some .int)) (by decide) rfl ?_
  intro p e s m args below meth c s₁ B hml hv
  obtain ⟨rfl, hbase, hh, hK, hX⟩ := hv
  have C0 : BC p s m _ meth c G base RX6 cX6_gaps 9 (some .int) wsX6_gaps := ⟨B.exec, B.bytes, B.returns, hml, findClass_of_methodNamed B.named, atoms_spec (ws := wsX6_gaps) B.pre, B.notSynchronized, hK, hbase, hX⟩
  obtain ⟨hx, hb, hr, -, hown, hts, hlocks, -, -, -⟩ := id C0
  have hS : va_S (xA base) s.heap s.heap [] := va_S.rf
  have hl := lv_entry ([.ref a0, .int p1, .int p2, .int p3, .int p4]) (n := 9) (Nat.le_of_ble_eq_true rfl)
  rw [lg_entry_eq]
  generalize (lg_sl ([.ref a0, .int p1, .int p2, .int p3, .int p4]) ++ List.replicate (9 - (lg_sl ([.ref a0, .int p1, .int p2, .int p3, .int p4])).length) Slot.unset).toArray = ls at hl ⊢
  have hl : lv_has ls 9 [(0, .ref a0), (1, .int p1), (2, .int p2), (3, .int p3), (4, .int p4)] := hl
  unfold wp_X6_gaps at h
  refine lv_aload_n hx hb dX6_gaps_0 rfl (lv_at hl 0 rfl) ?_
  refine lv_aload_n hx hb dX6_gaps_1 rfl (lv_at hl 0 rfl) ?_
  refine lv_iload_n hx hb dX6_gaps_2 rfl (lv_at hl 1 rfl) ?_
  obtain ⟨g1, h⟩ := h
  refine xc_i (va_runV (As := [.int p1]) (rest := [.ref a0]) ⟨hx, hb, hml, hown, hts⟩ (mt_X6_isSeries l G base h) (cwV 1 hts gX6_gaps_X6_isSeries rfl rfl rfl (by decide +kernel) ⟨Nat.le_of_ble_eq_true rfl, Nat.le_of_ble_eq_true rfl⟩) (xp_V hbase hh hK hX hS (ci := 6) g1 (by decide) rfl) rfl rfl hl.1 rfl (lv_room (Nat.le_of_ble_eq_true rfl)) dX6_gaps_3 ⟨Nat.le_of_ble_eq_true rfl, Nat.le_of_ble_eq_true rfl⟩) hS (fun r2 m3 H locs h hh hS => ?_)
  refine lv_if_ne (tgt := 13) hx hb dX6_gaps_6 (by decide) (fun c4 => ?_) (fun c4 => ?_)
  · replace h := h.1 c4
    refine lv_iload_n hx hb dX6_gaps_13 rfl (lv_at hl 2 rfl) ?_
    refine xc_i (va_runS (As := [.int p2]) (rest := [.ref a0]) ⟨hx, hb, hml, hown, hts⟩ (mt_X6_isRolled l G base h) (va_cwS 1 hts gX6_gaps_X6_isRolled rfl rfl rfl (by decide +kernel) ⟨Nat.le_of_ble_eq_true rfl, Nat.le_of_ble_eq_true rfl⟩) (xp_S hbase hh hK hX hS) rfl rfl hl.1 rfl (lv_room (Nat.le_of_ble_eq_true rfl)) dX6_gaps_14 ⟨Nat.le_of_ble_eq_true rfl, Nat.le_of_ble_eq_true rfl⟩) hS (fun r5 m6 H locs h hh hS => ?_)
    refine lv_if_eq (tgt := 33) hx hb dX6_gaps_17 (by decide) (fun c7 => ?_) (fun c7 => ?_)
    · replace h := h.1 c7
      exact bk_X6_gaps_33 C0  _ _ _ _ _ _ _ _ _ _ h hh hS (lv_sub hl [0, 1, 2, 3, 4] rfl)
    · replace h := h.2 c7
      refine lv_iload_n hx hb dX6_gaps_20 rfl (lv_at hl 3 rfl) ?_
      refine lv_iload hx hb dX6_gaps_21 (lv_at hl 4 rfl) ?_
      refine lv_iload_n hx hb dX6_gaps_23 rfl (lv_at hl 2 rfl) ?_
      refine xc_i (va_runS (As := [.int p2]) (rest := [.int p4, .int p3, .ref a0]) ⟨hx, hb, hml, hown, hts⟩ (mt_X6_length l G base h) (va_cwS 1 hts gX6_gaps_X6_length rfl rfl rfl (by decide +kernel) ⟨Nat.le_of_ble_eq_true rfl, Nat.le_of_ble_eq_true rfl⟩) (xp_S hbase hh hK hX hS) rfl rfl hl.1 rfl (lv_room (Nat.le_of_ble_eq_true rfl)) dX6_gaps_24 ⟨Nat.le_of_ble_eq_true rfl, Nat.le_of_ble_eq_true rfl⟩) hS (fun r61 m62 H locs h hh hS => ?_)
      refine xc_i (va_runS (As := [.int p3, .int p4, .int r61]) (rest := [.ref a0]) ⟨hx, hb, hml, hown, hts⟩ (mt_X6_isWindow l G base h) (va_cwS 3 hts gX6_gaps_X6_isWindow rfl rfl rfl (by decide +kernel) ⟨Nat.le_of_ble_eq_true rfl, Nat.le_of_ble_eq_true rfl⟩) (xp_S hbase hh hK hX hS) rfl rfl hl.1 rfl (lv_room (Nat.le_of_ble_eq_true rfl)) dX6_gaps_27 ⟨Nat.le_of_ble_eq_true rfl, Nat.le_of_ble_eq_true rfl⟩) hS (fun r63 m64 H locs h hh hS => ?_)
      refine lv_if_ne (tgt := 37) hx hb dX6_gaps_30 (by decide) (fun c65 => ?_) (fun c65 => ?_)
      · replace h := h.1 c65
        refine lv_iconst (v := 0) hx hb dX6_gaps_37 (by decide) ?_
        exact bk_X6_gaps_38 C0  _ _ _ _ _ _ _ _ _ _ _ h hh hS (lv_sub hl [0, 1, 2, 3, 4] rfl)
      · replace h := h.2 c65
        exact bk_X6_gaps_33 C0  _ _ _ _ _ _ _ _ _ _ h hh hS (lv_sub hl [0, 1, 2, 3, 4] rfl)
  · replace h := h.2 c4
    refine lv_iconst (v := 1) hx hb dX6_gaps_9 (by decide) ?_
    refine lv_goto (tgt := 38) hx hb dX6_gaps_10 (by decide) ?_
    exact bk_X6_gaps_38 C0  _ _ _ _ _ _ _ _ _ _ _ h hh hS (lv_sub hl [0, 1, 2, 3, 4] rfl)
