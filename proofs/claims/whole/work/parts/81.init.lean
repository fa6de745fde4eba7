/-! the constructors of the parts -/
theorem wj_177 : Cond.methodLink RX2 3 objectInit ∈ gtb := gm (List.mem_of_getElem? (i := 177) (by decide +kernel)) rfl
theorem qG_1_0 : fsF RX2 0 (RX2, TX2, 3) (.array .int) := ⟨rfl, rfl, by decide +kernel, tyX2, tyX2_ok, nmX2⟩
theorem qG_1_1 : fsF RX2 1 (RX2, TX2, 3) (.array .int) := ⟨rfl, rfl, by decide +kernel, tyX2, tyX2_ok, nmX2⟩
abbrev mX2_init : Mth := (yX2_init, cX2_init, 1, none)
abbrev tX2_i : Sd := (3, .inr (.inr (1, [some 22, some 23, none]))) :: (([] ++ [(22, .inl 41)]) ++ [(23, .inl 41)])
theorem kX2_init : cti mX2_init 1 2 82 3 1 [.null, .null, .int 0] tX2_i := by
  refine met_of_gw (sg0 := ini) (by decide +kernel) rfl (Nat.le_of_ble_eq_true rfl) (fun _ => rfl) ?_
  intro p l e s m below meth c D cI cQ A h0 ad hc ho hin hA h0e
  refine g_aload_n hc (k0 := 0) (x := 3) rfl dX2_init_0 ?_
  refine g_obj hc wj_177 (Nat.le_of_ble_eq_true rfl) (Nat.le_of_ble_eq_true rfl) (Nat.le_of_ble_eq_true rfl) dX2_init_1 ?_
  refine g_aload_n hc (k0 := 0) (x := 3) rfl dX2_init_4 ?_
  refine g_bipush hc (v := 41) (by decide) dX2_init_5 ?_
  refine g_newa hc hA 22 41 h0e rfl (by decide +kernel) (fun _ => rfl) (by decide) (by decide +kernel) (Nat.le_of_ble_eq_true rfl) (Nat.le_of_ble_eq_true rfl) (Nat.le_of_ble_eq_true rfl) dX2_init_7 (fun ad h0e => ?_)
  refine g_putF hc hin qF_RX2_9 qG_1_0 (Nat.le_of_ble_eq_true rfl) (fun _ => rfl) (fun _ => rfl) dX2_init_9 ?_
  show gw _ _ _ _ _ _ _ _ _ _ _ _ _ _ _ _ [(3, 1, [.ref 22, .null, .int 0])] _ _ _ _ _ _ _ _
  refine g_aload_n hc (k0 := 0) (x := 3) rfl dX2_init_12 ?_
  refine g_bipush hc (v := 41) (by decide) dX2_init_13 ?_
  refine g_newa hc hA 23 41 h0e rfl (by decide +kernel) (fun _ => rfl) (by decide) (by decide +kernel) (Nat.le_of_ble_eq_true rfl) (Nat.le_of_ble_eq_true rfl) (Nat.le_of_ble_eq_true rfl) dX2_init_15 (fun ad h0e => ?_)
  refine g_putF hc hin qF_RX2_15 qG_1_1 (Nat.le_of_ble_eq_true rfl) (fun _ => rfl) (fun _ => rfl) dX2_init_17 ?_
  show gw _ _ _ _ _ _ _ _ _ _ _ _ _ _ _ _ [(3, 1, [.ref 22, .ref 23, .int 0])] _ _ _ _ _ _ _ _
  refine g_aload_n hc (k0 := 0) (x := 3) rfl dX2_init_20 ?_
  refine g_iconst hc (v := 0) (by decide) dX2_init_21 ?_
  refine g_putX hc qF_RX2_18 qP_1_2 (Nat.le_of_ble_eq_true rfl) (fun _ => rfl) (fun _ => rfl) dX2_init_22 ?_
  show gw _ _ _ _ _ _ _ _ _ _ _ _ _ _ _ _ [(3, 1, [.ref 22, .ref 23, .int 0])] _ _ _ _ _ _ _ _
  refine g_widen 2 82 (Nat.le_of_ble_eq_true rfl) (Nat.le_of_ble_eq_true rfl) ?_
  exact g_vreti (c0 := 3) (ci := 1) (fl := [some 22, some 23, none]) hc rfl h0e rfl (fun q _ => rq_rf) dX2_init_25
theorem wj_91 : Cond.methodLink RX4 3 objectInit ∈ gtb := gm (List.mem_of_getElem? (i := 91) (by decide +kernel)) rfl
theorem wj_92 : Cond.classLink RX4 9 ("[" ++ (FieldType.array .int).toString) ∈ gtb := gm (List.mem_of_getElem? (i := 92) (by decide +kernel)) rfl
theorem qG_3_0 : fsF RX4 0 (RX4, TX4, 3) (.array (.array .int)) := ⟨rfl, rfl, by decide +kernel, tyX4, tyX4_ok, nmX4⟩
theorem qG_3_1 : fsF RX4 1 (RX4, TX4, 3) (.array .int) := ⟨rfl, rfl, by decide +kernel, tyX4, tyX4_ok, nmX4⟩
abbrev mX4_init : Mth := (yX4_init, cX4_init, 1, none)
abbrev tX4_i : Sd := (1, .inr (.inr (3, [some 8, some 9, none]))) :: (([] ++ ((8, .inr (.inl (24, 100))) :: (List.range 24).map (fun i => (100 + i, .inl 41)))) ++ [(9, .inl 24)])
theorem kX4_init : cti mX4_init 1 26 1032 1 3 [.null, .null, .int 0] tX4_i := by
  refine met_of_gw (sg0 := ini) (by decide +kernel) rfl (Nat.le_of_ble_eq_true rfl) (fun _ => rfl) ?_
  intro p l e s m below meth c D cI cQ A h0 ad hc ho hin hA h0e
  refine g_aload_n hc (k0 := 0) (x := 1) rfl dX4_init_0 ?_
  refine g_obj hc wj_91 (Nat.le_of_ble_eq_true rfl) (Nat.le_of_ble_eq_true rfl) (Nat.le_of_ble_eq_true rfl) dX4_init_1 ?_
  refine g_aload_n hc (k0 := 0) (x := 1) rfl dX4_init_4 ?_
  refine g_bipush hc (v := 24) (by decide) dX4_init_5 ?_
  refine g_bipush hc (v := 41) (by decide) dX4_init_7 ?_
  refine g_mna hc ho hA 8 100 24 41 wj_92 h0e (by decide +kernel) (Nat.le_of_ble_eq_true rfl) (by decide +kernel) (fun i j hi => by rw [ini_z (by unfold isZ; simp; omega)]) (by decide) (by decide) (by decide +kernel) (by decide +kernel) (Nat.le_of_ble_eq_true rfl) (Nat.le_of_ble_eq_true rfl) (Nat.le_of_ble_eq_true rfl) (Nat.le_of_ble_eq_true rfl) dX4_init_9 (fun ad h0e => ?_)
  refine g_putF hc hin qF_RX4_11 qG_3_0 (Nat.le_of_ble_eq_true rfl) (fun _ => rfl) (fun _ => rfl) dX4_init_13 ?_
  show gw _ _ _ _ _ _ _ _ _ _ _ _ _ _ _ _ [(1, 3, [.ref 8, .null, .int 0])] _ _ _ _ _ _ _ _
  refine g_aload_n hc (k0 := 0) (x := 1) rfl dX4_init_16 ?_
  refine g_bipush hc (v := 24) (by decide) dX4_init_17 ?_
  refine g_newa hc hA 9 24 h0e rfl (by decide +kernel) (fun _ => rfl) (by decide) (by decide +kernel) (Nat.le_of_ble_eq_true rfl) (Nat.le_of_ble_eq_true rfl) (Nat.le_of_ble_eq_true rfl) dX4_init_19 (fun ad h0e => ?_)
  refine g_putF hc hin qF_RX4_16 qG_3_1 (Nat.le_of_ble_eq_true rfl) (fun _ => rfl) (fun _ => rfl) dX4_init_21 ?_
  show gw _ _ _ _ _ _ _ _ _ _ _ _ _ _ _ _ [(1, 3, [.ref 8, .ref 9, .int 0])] _ _ _ _ _ _ _ _
  refine g_aload_n hc (k0 := 0) (x := 1) rfl dX4_init_24 ?_
  refine g_iconst hc (v := 0) (by decide) dX4_init_25 ?_
  refine g_putX hc qF_RX4_20 qP_3_2 (Nat.le_of_ble_eq_true rfl) (fun _ => rfl) (fun _ => rfl) dX4_init_26 ?_
  show gw _ _ _ _ _ _ _ _ _ _ _ _ _ _ _ _ [(1, 3, [.ref 8, .ref 9, .int 0])] _ _ _ _ _ _ _ _
  refine g_widen 26 1032 (Nat.le_of_ble_eq_true rfl) (Nat.le_of_ble_eq_true rfl) ?_
  exact g_vreti (c0 := 1) (ci := 3) (fl := [some 8, some 9, none]) hc rfl h0e rfl (fun q _ => rq_rf) dX4_init_29
theorem wj_214 : Cond.methodLink RX5 3 objectInit ∈ gtb := gm (List.mem_of_getElem? (i := 214) (by decide +kernel)) rfl
theorem qG_4_0 : fsF RX5 0 (RX5, TX5, 8) (.array .int) := ⟨rfl, rfl, by decide +kernel, tyX5, tyX5_ok, nmX5⟩
theorem qG_4_1 : fsF RX5 1 (RX5, TX5, 8) (.array .int) := ⟨rfl, rfl, by decide +kernel, tyX5, tyX5_ok, nmX5⟩
theorem qG_4_2 : fsF RX5 2 (RX5, TX5, 8) (.array .int) := ⟨rfl, rfl, by decide +kernel, tyX5, tyX5_ok, nmX5⟩
abbrev mX5_init : Mth := (yX5_init, cX5_init, 1, none)
abbrev tX5_i : Sd := (5, .inr (.inr (4, [some 27, some 28, some 29, none, none, none, none, none]))) :: ((([] ++ [(27, .inl 60)]) ++ [(28, .inl 41)]) ++ [(29, .inl 41)])
theorem kX5_init : cti mX5_init 1 3 142 5 4 [.null, .null, .null, .int 0, .int 0, .int 0, .int 0, .int 0] tX5_i := by
  refine met_of_gw (sg0 := ini) (by decide +kernel) rfl (Nat.le_of_ble_eq_true rfl) (fun _ => rfl) ?_
  intro p l e s m below meth c D cI cQ A h0 ad hc ho hin hA h0e
  refine g_aload_n hc (k0 := 0) (x := 5) rfl dX5_init_0 ?_
  refine g_obj hc wj_214 (Nat.le_of_ble_eq_true rfl) (Nat.le_of_ble_eq_true rfl) (Nat.le_of_ble_eq_true rfl) dX5_init_1 ?_
  refine g_aload_n hc (k0 := 0) (x := 5) rfl dX5_init_4 ?_
  refine g_bipush hc (v := 60) (by decide) dX5_init_5 ?_
  refine g_newa hc hA 27 60 h0e rfl (by decide +kernel) (fun _ => rfl) (by decide) (by decide +kernel) (Nat.le_of_ble_eq_true rfl) (Nat.le_of_ble_eq_true rfl) (Nat.le_of_ble_eq_true rfl) dX5_init_7 (fun ad h0e => ?_)
  refine g_putF hc hin qF_RX5_9 qG_4_0 (Nat.le_of_ble_eq_true rfl) (fun _ => rfl) (fun _ => rfl) dX5_init_9 ?_
  show gw _ _ _ _ _ _ _ _ _ _ _ _ _ _ _ _ [(5, 4, [.ref 27, .null, .null, .int 0, .int 0, .int 0, .int 0, .int 0])] _ _ _ _ _ _ _ _
  refine g_aload_n hc (k0 := 0) (x := 5) rfl dX5_init_12 ?_
  refine g_bipush hc (v := 41) (by decide) dX5_init_13 ?_
  refine g_newa hc hA 28 41 h0e rfl (by decide +kernel) (fun _ => rfl) (by decide) (by decide +kernel) (Nat.le_of_ble_eq_true rfl) (Nat.le_of_ble_eq_true rfl) (Nat.le_of_ble_eq_true rfl) dX5_init_15 (fun ad h0e => ?_)
  refine g_putF hc hin qF_RX5_15 qG_4_1 (Nat.le_of_ble_eq_true rfl) (fun _ => rfl) (fun _ => rfl) dX5_init_17 ?_
  show gw _ _ _ _ _ _ _ _ _ _ _ _ _ _ _ _ [(5, 4, [.ref 27, .ref 28, .null, .int 0, .int 0, .int 0, .int 0, .int 0])] _ _ _ _ _ _ _ _
  refine g_aload_n hc (k0 := 0) (x := 5) rfl dX5_init_20 ?_
  refine g_bipush hc (v := 41) (by decide) dX5_init_21 ?_
  refine g_newa hc hA 29 41 h0e rfl (by decide +kernel) (fun _ => rfl) (by decide) (by decide +kernel) (Nat.le_of_ble_eq_true rfl) (Nat.le_of_ble_eq_true rfl) (Nat.le_of_ble_eq_true rfl) dX5_init_23 (fun ad h0e => ?_)
  refine g_putF hc hin qF_RX5_18 qG_4_2 (Nat.le_of_ble_eq_true rfl) (fun _ => rfl) (fun _ => rfl) dX5_init_25 ?_
  show gw _ _ _ _ _ _ _ _ _ _ _ _ _ _ _ _ [(5, 4, [.ref 27, .ref 28, .ref 29, .int 0, .int 0, .int 0, .int 0, .int 0])] _ _ _ _ _ _ _ _
  refine g_aload_n hc (k0 := 0) (x := 5) rfl dX5_init_28 ?_
  refine g_iconst hc (v := 0) (by decide) dX5_init_29 ?_
  refine g_putX hc qF_RX5_21 qP_4_3 (Nat.le_of_ble_eq_true rfl) (fun _ => rfl) (fun _ => rfl) dX5_init_30 ?_
  show gw _ _ _ _ _ _ _ _ _ _ _ _ _ _ _ _ [(5, 4, [.ref 27, .ref 28, .ref 29, .int 0, .int 0, .int 0, .int 0, .int 0])] _ _ _ _ _ _ _ _
  refine g_aload_n hc (k0 := 0) (x := 5) rfl dX5_init_33 ?_
  refine g_iconst hc (v := 0) (by decide) dX5_init_34 ?_
  refine g_putX hc qF_RX5_25 qP_4_4 (Nat.le_of_ble_eq_true rfl) (fun _ => rfl) (fun _ => rfl) dX5_init_35 ?_
  show gw _ _ _ _ _ _ _ _ _ _ _ _ _ _ _ _ [(5, 4, [.ref 27, .ref 28, .ref 29, .int 0, .int 0, .int 0, .int 0, .int 0])] _ _ _ _ _ _ _ _
  refine g_aload_n hc (k0 := 0) (x := 5) rfl dX5_init_38 ?_
  refine g_iconst hc (v := 0) (by decide) dX5_init_39 ?_
  refine g_putX hc qF_RX5_28 qP_4_5 (Nat.le_of_ble_eq_true rfl) (fun _ => rfl) (fun _ => rfl) dX5_init_40 ?_
  show gw _ _ _ _ _ _ _ _ _ _ _ _ _ _ _ _ [(5, 4, [.ref 27, .ref 28, .ref 29, .int 0, .int 0, .int 0, .int 0, .int 0])] _ _ _ _ _ _ _ _
  refine g_aload_n hc (k0 := 0) (x := 5) rfl dX5_init_43 ?_
  refine g_iconst hc (v := 0) (by decide) dX5_init_44 ?_
  refine g_putX hc qF_RX5_31 qP_4_6 (Nat.le_of_ble_eq_true rfl) (fun _ => rfl) (fun _ => rfl) dX5_init_45 ?_
  show gw _ _ _ _ _ _ _ _ _ _ _ _ _ _ _ _ [(5, 4, [.ref 27, .ref 28, .ref 29, .int 0, .int 0, .int 0, .int 0, .int 0])] _ _ _ _ _ _ _ _
  refine g_aload_n hc (k0 := 0) (x := 5) rfl dX5_init_48 ?_
  refine g_iconst hc (v := -1) (by decide) dX5_init_49 ?_
  refine g_putX hc qF_RX5_34 qP_4_7 (Nat.le_of_ble_eq_true rfl) (fun _ => rfl) (fun _ => rfl) dX5_init_50 ?_
  show gw _ _ _ _ _ _ _ _ _ _ _ _ _ _ _ _ [(5, 4, [.ref 27, .ref 28, .ref 29, .int 0, .int 0, .int 0, .int 0, .int (-1)])] _ _ _ _ _ _ _ _
  refine g_widen 3 142 (Nat.le_of_ble_eq_true rfl) (Nat.le_of_ble_eq_true rfl) ?_
  exact g_vreti (c0 := 5) (ci := 4) (fl := [some 27, some 28, some 29, none, none, none, none, none]) hc rfl h0e rfl (fun q _ => rq_rf) dX5_init_53
theorem wj_112 : Cond.methodLink RX0 3 objectInit ∈ gtb := gm (List.mem_of_getElem? (i := 112) (by decide +kernel)) rfl
theorem qG_0_0 : fsF RX0 0 (RX0, TX0, 16) (.array .int) := ⟨rfl, rfl, by decide +kernel, tyX0, tyX0_ok, nmX0⟩
theorem wj_113 : Cond.classLink RX0 15 ("[" ++ (FieldType.array .int).toString) ∈ gtb := gm (List.mem_of_getElem? (i := 113) (by decide +kernel)) rfl
theorem qG_0_1 : fsF RX0 1 (RX0, TX0, 16) (.array (.array .int)) := ⟨rfl, rfl, by decide +kernel, tyX0, tyX0_ok, nmX0⟩
theorem qG_0_2 : fsF RX0 2 (RX0, TX0, 16) (.array .int) := ⟨rfl, rfl, by decide +kernel, tyX0, tyX0_ok, nmX0⟩
theorem qG_0_3 : fsF RX0 3 (RX0, TX0, 16) (.array .int) := ⟨rfl, rfl, by decide +kernel, tyX0, tyX0_ok, nmX0⟩
theorem qG_0_4 : fsF RX0 4 (RX0, TX0, 16) (.array (.array .int)) := ⟨rfl, rfl, by decide +kernel, tyX0, tyX0_ok, nmX0⟩
theorem qG_0_7 : fsF RX0 7 (RX0, TX0, 16) (.array (.array .int)) := ⟨rfl, rfl, by decide +kernel, tyX0, tyX0_ok, nmX0⟩
theorem qG_0_8 : fsF RX0 8 (RX0, TX0, 16) (.array (.array .int)) := ⟨rfl, rfl, by decide +kernel, tyX0, tyX0_ok, nmX0⟩
theorem qG_0_9 : fsF RX0 9 (RX0, TX0, 16) (.array .int) := ⟨rfl, rfl, by decide +kernel, tyX0, tyX0_ok, nmX0⟩
theorem qG_0_10 : fsF RX0 10 (RX0, TX0, 16) (.array .int) := ⟨rfl, rfl, by decide +kernel, tyX0, tyX0_ok, nmX0⟩
theorem qG_0_11 : fsF RX0 11 (RX0, TX0, 16) (.array .int) := ⟨rfl, rfl, by decide +kernel, tyX0, tyX0_ok, nmX0⟩
theorem qG_0_12 : fsF RX0 12 (RX0, TX0, 16) (.array .int) := ⟨rfl, rfl, by decide +kernel, tyX0, tyX0_ok, nmX0⟩
theorem qG_0_13 : fsF RX0 13 (RX0, TX0, 16) (.array .int) := ⟨rfl, rfl, by decide +kernel, tyX0, tyX0_ok, nmX0⟩
abbrev mX0_init : Mth := (yX0_init, cX0_init, 1, none)
abbrev tX0_i : Sd := (2, .inr (.inr (0, [some 10, some 11, some 12, some 13, some 14, none, none, some 15, some 16, some 17, some 18, some 19, some 20, some 21, none, none]))) :: (((((((((((([] ++ [(10, .inl 6)]) ++ ((11, .inr (.inl (6, 130))) :: (List.range 6).map (fun i => (130 + i, .inl 41)))) ++ [(12, .inl 5)]) ++ [(13, .inl 5)]) ++ ((14, .inr (.inl (5, 140))) :: (List.range 5).map (fun i => (140 + i, .inl 4)))) ++ ((15, .inr (.inl (25, 150))) :: (List.range 25).map (fun i => (150 + i, .inl 41)))) ++ ((16, .inr (.inl (20, 180))) :: (List.range 20).map (fun i => (180 + i, .inl 41)))) ++ [(17, .inl 20)]) ++ [(18, .inl 6)]) ++ [(19, .inl 6)]) ++ [(20, .inl 41)]) ++ [(21, .inl 41)])
theorem kX0_init : cti mX0_init 1 68 2297 2 0 [.null, .null, .null, .null, .null, .int 0, .int 0, .null, .null, .null, .null, .null, .null, .null, .int 0, .int 0] tX0_i := by
  refine met_of_gw (sg0 := zer) (by decide +kernel) rfl (Nat.le_of_ble_eq_true rfl) (fun _ => rfl) ?_
  intro p l e s m below meth c D cI cQ A h0 ad hc ho hin hA h0e
  refine g_aload_n hc (k0 := 0) (x := 2) rfl dX0_init_0 ?_
  refine g_obj hc wj_112 (Nat.le_of_ble_eq_true rfl) (Nat.le_of_ble_eq_true rfl) (Nat.le_of_ble_eq_true rfl) dX0_init_1 ?_
  refine g_aload_n hc (k0 := 0) (x := 2) rfl dX0_init_4 ?_
  refine g_bipush hc (v := 6) (by decide) dX0_init_5 ?_
  refine g_newa hc hA 10 6 h0e rfl (by decide +kernel) (fun _ => rfl) (by decide) (by decide +kernel) (Nat.le_of_ble_eq_true rfl) (Nat.le_of_ble_eq_true rfl) (Nat.le_of_ble_eq_true rfl) dX0_init_7 (fun ad h0e => ?_)
  refine g_putF hc hin qF_RX0_9 qG_0_0 (Nat.le_of_ble_eq_true rfl) (fun _ => rfl) (fun _ => rfl) dX0_init_9 ?_
  show gw _ _ _ _ _ _ _ _ _ _ _ _ _ _ _ _ [(2, 0, [.ref 10, .null, .null, .null, .null, .int 0, .int 0, .null, .null, .null, .null, .null, .null, .null, .int 0, .int 0])] _ _ _ _ _ _ _ _
  refine g_aload_n hc (k0 := 0) (x := 2) rfl dX0_init_12 ?_
  refine g_bipush hc (v := 6) (by decide) dX0_init_13 ?_
  refine g_bipush hc (v := 41) (by decide) dX0_init_15 ?_
  refine g_mna hc ho hA 11 130 6 41 wj_113 h0e (by decide +kernel) (Nat.le_of_ble_eq_true rfl) (by decide +kernel) (fun _ _ _ => rfl) (by decide) (by decide) (by decide +kernel) (by decide +kernel) (Nat.le_of_ble_eq_true rfl) (Nat.le_of_ble_eq_true rfl) (Nat.le_of_ble_eq_true rfl) (Nat.le_of_ble_eq_true rfl) dX0_init_17 (fun ad h0e => ?_)
  refine g_putF hc hin qF_RX0_17 qG_0_1 (Nat.le_of_ble_eq_true rfl) (fun _ => rfl) (fun _ => rfl) dX0_init_21 ?_
  show gw _ _ _ _ _ _ _ _ _ _ _ _ _ _ _ _ [(2, 0, [.ref 10, .ref 11, .null, .null, .null, .int 0, .int 0, .null, .null, .null, .null, .null, .null, .null, .int 0, .int 0])] _ _ _ _ _ _ _ _
  refine g_aload_n hc (k0 := 0) (x := 2) rfl dX0_init_24 ?_
  refine g_iconst hc (v := 5) (by decide) dX0_init_25 ?_
  refine g_newa hc hA 12 5 h0e rfl (by decide +kernel) (fun _ => rfl) (by decide) (by decide +kernel) (Nat.le_of_ble_eq_true rfl) (Nat.le_of_ble_eq_true rfl) (Nat.le_of_ble_eq_true rfl) dX0_init_26 (fun ad h0e => ?_)
  refine g_putF hc hin qF_RX0_20 qG_0_2 (Nat.le_of_ble_eq_true rfl) (fun _ => rfl) (fun _ => rfl) dX0_init_28 ?_
  show gw _ _ _ _ _ _ _ _ _ _ _ _ _ _ _ _ [(2, 0, [.ref 10, .ref 11, .ref 12, .null, .null, .int 0, .int 0, .null, .null, .null, .null, .null, .null, .null, .int 0, .int 0])] _ _ _ _ _ _ _ _
  refine g_aload_n hc (k0 := 0) (x := 2) rfl dX0_init_31 ?_
  refine g_iconst hc (v := 5) (by decide) dX0_init_32 ?_
  refine g_newa hc hA 13 5 h0e rfl (by decide +kernel) (fun _ => rfl) (by decide) (by decide +kernel) (Nat.le_of_ble_eq_true rfl) (Nat.le_of_ble_eq_true rfl) (Nat.le_of_ble_eq_true rfl) dX0_init_33 (fun ad h0e => ?_)
  refine g_putF hc hin qF_RX0_23 qG_0_3 (Nat.le_of_ble_eq_true rfl) (fun _ => rfl) (fun _ => rfl) dX0_init_35 ?_
  show gw _ _ _ _ _ _ _ _ _ _ _ _ _ _ _ _ [(2, 0, [.ref 10, .ref 11, .ref 12, .ref 13, .null, .int 0, .int 0, .null, .null, .null, .null, .null, .null, .null, .int 0, .int 0])] _ _ _ _ _ _ _ _
  refine g_aload_n hc (k0 := 0) (x := 2) rfl dX0_init_38 ?_
  refine g_iconst hc (v := 5) (by decide) dX0_init_39 ?_
  refine g_iconst hc (v := 4) (by decide) dX0_init_40 ?_
  refine g_mna hc ho hA 14 140 5 4 wj_113 h0e (by decide +kernel) (Nat.le_of_ble_eq_true rfl) (by decide +kernel) (fun _ _ _ => rfl) (by decide) (by decide) (by decide +kernel) (by decide +kernel) (Nat.le_of_ble_eq_true rfl) (Nat.le_of_ble_eq_true rfl) (Nat.le_of_ble_eq_true rfl) (Nat.le_of_ble_eq_true rfl) dX0_init_41 (fun ad h0e => ?_)
  refine g_putF hc hin qF_RX0_26 qG_0_4 (Nat.le_of_ble_eq_true rfl) (fun _ => rfl) (fun _ => rfl) dX0_init_45 ?_
  show gw _ _ _ _ _ _ _ _ _ _ _ _ _ _ _ _ [(2, 0, [.ref 10, .ref 11, .ref 12, .ref 13, .ref 14, .int 0, .int 0, .null, .null, .null, .null, .null, .null, .null, .int 0, .int 0])] _ _ _ _ _ _ _ _
  refine g_aload_n hc (k0 := 0) (x := 2) rfl dX0_init_48 ?_
  refine g_iconst hc (v := 0) (by decide) dX0_init_49 ?_
  refine g_putX hc qF_RX0_29 qP_0_5 (Nat.le_of_ble_eq_true rfl) (fun _ => rfl) (fun _ => rfl) dX0_init_50 ?_
  show gw _ _ _ _ _ _ _ _ _ _ _ _ _ _ _ _ [(2, 0, [.ref 10, .ref 11, .ref 12, .ref 13, .ref 14, .int 0, .int 0, .null, .null, .null, .null, .null, .null, .null, .int 0, .int 0])] _ _ _ _ _ _ _ _
  refine g_aload_n hc (k0 := 0) (x := 2) rfl dX0_init_53 ?_
  refine g_iconst hc (v := 0) (by decide) dX0_init_54 ?_
  refine g_putX hc qF_RX0_33 qP_0_6 (Nat.le_of_ble_eq_true rfl) (fun _ => rfl) (fun _ => rfl) dX0_init_55 ?_
  show gw _ _ _ _ _ _ _ _ _ _ _ _ _ _ _ _ [(2, 0, [.ref 10, .ref 11, .ref 12, .ref 13, .ref 14, .int 0, .int 0, .null, .null, .null, .null, .null, .null, .null, .int 0, .int 0])] _ _ _ _ _ _ _ _
  refine g_aload_n hc (k0 := 0) (x := 2) rfl dX0_init_58 ?_
  refine g_bipush hc (v := 25) (by decide) dX0_init_59 ?_
  refine g_bipush hc (v := 41) (by decide) dX0_init_61 ?_
  refine g_mna hc ho hA 15 150 25 41 wj_113 h0e (by decide +kernel) (Nat.le_of_ble_eq_true rfl) (by decide +kernel) (fun _ _ _ => rfl) (by decide) (by decide) (by decide +kernel) (by decide +kernel) (Nat.le_of_ble_eq_true rfl) (Nat.le_of_ble_eq_true rfl) (Nat.le_of_ble_eq_true rfl) (Nat.le_of_ble_eq_true rfl) dX0_init_63 (fun ad h0e => ?_)
  refine g_putF hc hin qF_RX0_36 qG_0_7 (Nat.le_of_ble_eq_true rfl) (fun _ => rfl) (fun _ => rfl) dX0_init_67 ?_
  show gw _ _ _ _ _ _ _ _ _ _ _ _ _ _ _ _ [(2, 0, [.ref 10, .ref 11, .ref 12, .ref 13, .ref 14, .int 0, .int 0, .ref 15, .null, .null, .null, .null, .null, .null, .int 0, .int 0])] _ _ _ _ _ _ _ _
  refine g_aload_n hc (k0 := 0) (x := 2) rfl dX0_init_70 ?_
  refine g_bipush hc (v := 20) (by decide) dX0_init_71 ?_
  refine g_bipush hc (v := 41) (by decide) dX0_init_73 ?_
  refine g_mna hc ho hA 16 180 20 41 wj_113 h0e (by decide +kernel) (Nat.le_of_ble_eq_true rfl) (by decide +kernel) (fun _ _ _ => rfl) (by decide) (by decide) (by decide +kernel) (by decide +kernel) (Nat.le_of_ble_eq_true rfl) (Nat.le_of_ble_eq_true rfl) (Nat.le_of_ble_eq_true rfl) (Nat.le_of_ble_eq_true rfl) dX0_init_75 (fun ad h0e => ?_)
  refine g_putF hc hin qF_RX0_39 qG_0_8 (Nat.le_of_ble_eq_true rfl) (fun _ => rfl) (fun _ => rfl) dX0_init_79 ?_
  show gw _ _ _ _ _ _ _ _ _ _ _ _ _ _ _ _ [(2, 0, [.ref 10, .ref 11, .ref 12, .ref 13, .ref 14, .int 0, .int 0, .ref 15, .ref 16, .null, .null, .null, .null, .null, .int 0, .int 0])] _ _ _ _ _ _ _ _
  refine g_aload_n hc (k0 := 0) (x := 2) rfl dX0_init_82 ?_
  refine g_bipush hc (v := 20) (by decide) dX0_init_83 ?_
  refine g_newa hc hA 17 20 h0e rfl (by decide +kernel) (fun _ => rfl) (by decide) (by decide +kernel) (Nat.le_of_ble_eq_true rfl) (Nat.le_of_ble_eq_true rfl) (Nat.le_of_ble_eq_true rfl) dX0_init_85 (fun ad h0e => ?_)
  refine g_putF hc hin qF_RX0_42 qG_0_9 (Nat.le_of_ble_eq_true rfl) (fun _ => rfl) (fun _ => rfl) dX0_init_87 ?_
  show gw _ _ _ _ _ _ _ _ _ _ _ _ _ _ _ _ [(2, 0, [.ref 10, .ref 11, .ref 12, .ref 13, .ref 14, .int 0, .int 0, .ref 15, .ref 16, .ref 17, .null, .null, .null, .null, .int 0, .int 0])] _ _ _ _ _ _ _ _
  refine g_aload_n hc (k0 := 0) (x := 2) rfl dX0_init_90 ?_
  refine g_bipush hc (v := 6) (by decide) dX0_init_91 ?_
  refine g_newa hc hA 18 6 h0e rfl (by decide +kernel) (fun _ => rfl) (by decide) (by decide +kernel) (Nat.le_of_ble_eq_true rfl) (Nat.le_of_ble_eq_true rfl) (Nat.le_of_ble_eq_true rfl) dX0_init_93 (fun ad h0e => ?_)
  refine g_putF hc hin qF_RX0_45 qG_0_10 (Nat.le_of_ble_eq_true rfl) (fun _ => rfl) (fun _ => rfl) dX0_init_95 ?_
  show gw _ _ _ _ _ _ _ _ _ _ _ _ _ _ _ _ [(2, 0, [.ref 10, .ref 11, .ref 12, .ref 13, .ref 14, .int 0, .int 0, .ref 15, .ref 16, .ref 17, .ref 18, .null, .null, .null, .int 0, .int 0])] _ _ _ _ _ _ _ _
  refine g_aload_n hc (k0 := 0) (x := 2) rfl dX0_init_98 ?_
  refine g_bipush hc (v := 6) (by decide) dX0_init_99 ?_
  refine g_newa hc hA 19 6 h0e rfl (by decide +kernel) (fun _ => rfl) (by decide) (by decide +kernel) (Nat.le_of_ble_eq_true rfl) (Nat.le_of_ble_eq_true rfl) (Nat.le_of_ble_eq_true rfl) dX0_init_101 (fun ad h0e => ?_)
  refine g_putF hc hin qF_RX0_48 qG_0_11 (Nat.le_of_ble_eq_true rfl) (fun _ => rfl) (fun _ => rfl) dX0_init_103 ?_
  show gw _ _ _ _ _ _ _ _ _ _ _ _ _ _ _ _ [(2, 0, [.ref 10, .ref 11, .ref 12, .ref 13, .ref 14, .int 0, .int 0, .ref 15, .ref 16, .ref 17, .ref 18, .ref 19, .null, .null, .int 0, .int 0])] _ _ _ _ _ _ _ _
  refine g_aload_n hc (k0 := 0) (x := 2) rfl dX0_init_106 ?_
  refine g_bipush hc (v := 41) (by decide) dX0_init_107 ?_
  refine g_newa hc hA 20 41 h0e rfl (by decide +kernel) (fun _ => rfl) (by decide) (by decide +kernel) (Nat.le_of_ble_eq_true rfl) (Nat.le_of_ble_eq_true rfl) (Nat.le_of_ble_eq_true rfl) dX0_init_109 (fun ad h0e => ?_)
  refine g_putF hc hin qF_RX0_51 qG_0_12 (Nat.le_of_ble_eq_true rfl) (fun _ => rfl) (fun _ => rfl) dX0_init_111 ?_
  show gw _ _ _ _ _ _ _ _ _ _ _ _ _ _ _ _ [(2, 0, [.ref 10, .ref 11, .ref 12, .ref 13, .ref 14, .int 0, .int 0, .ref 15, .ref 16, .ref 17, .ref 18, .ref 19, .ref 20, .null, .int 0, .int 0])] _ _ _ _ _ _ _ _
  refine g_aload_n hc (k0 := 0) (x := 2) rfl dX0_init_114 ?_
  refine g_bipush hc (v := 41) (by decide) dX0_init_115 ?_
  refine g_newa hc hA 21 41 h0e rfl (by decide +kernel) (fun _ => rfl) (by decide) (by decide +kernel) (Nat.le_of_ble_eq_true rfl) (Nat.le_of_ble_eq_true rfl) (Nat.le_of_ble_eq_true rfl) dX0_init_117 (fun ad h0e => ?_)
  refine g_putF hc hin qF_RX0_54 qG_0_13 (Nat.le_of_ble_eq_true rfl) (fun _ => rfl) (fun _ => rfl) dX0_init_119 ?_
  show gw _ _ _ _ _ _ _ _ _ _ _ _ _ _ _ _ [(2, 0, [.ref 10, .ref 11, .ref 12, .ref 13, .ref 14, .int 0, .int 0, .ref 15, .ref 16, .ref 17, .ref 18, .ref 19, .ref 20, .ref 21, .int 0, .int 0])] _ _ _ _ _ _ _ _
  refine g_aload_n hc (k0 := 0) (x := 2) rfl dX0_init_122 ?_
  refine g_iconst hc (v := 0) (by decide) dX0_init_123 ?_
  refine g_putX hc qF_RX0_57 qP_0_14 (Nat.le_of_ble_eq_true rfl) (fun _ => rfl) (fun _ => rfl) dX0_init_124 ?_
  show gw _ _ _ _ _ _ _ _ _ _ _ _ _ _ _ _ [(2, 0, [.ref 10, .ref 11, .ref 12, .ref 13, .ref 14, .int 0, .int 0, .ref 15, .ref 16, .ref 17, .ref 18, .ref 19, .ref 20, .ref 21, .int 0, .int 0])] _ _ _ _ _ _ _ _
  refine g_aload_n hc (k0 := 0) (x := 2) rfl dX0_init_127 ?_
  refine g_iconst hc (v := 0) (by decide) dX0_init_128 ?_
  refine g_putX hc qF_RX0_61 qP_0_15 (Nat.le_of_ble_eq_true rfl) (fun _ => rfl) (fun _ => rfl) dX0_init_129 ?_
  show gw _ _ _ _ _ _ _ _ _ _ _ _ _ _ _ _ [(2, 0, [.ref 10, .ref 11, .ref 12, .ref 13, .ref 14, .int 0, .int 0, .ref 15, .ref 16, .ref 17, .ref 18, .ref 19, .ref 20, .ref 21, .int 0, .int 0])] _ _ _ _ _ _ _ _
  refine g_aload_n hc (k0 := 0) (x := 2) rfl dX0_init_132 ?_
  refine g_getX hc (v := .ref 10) qF_RX0_9 rfl dX0_init_133 ?_
  refine g_bipush hc (v := -9) (by decide) dX0_init_136 ?_
  refine g_fill hc hA (ta := (tX0_i.drop 1).take 0) (tz := (tX0_i.drop 1).drop 1) (c1 := 10) (n := 6) (d := 0) rfl (by decide +kernel) (by decide) qS_RX0_64 (Nat.le_of_ble_eq_true rfl) (Nat.le_of_ble_eq_true rfl) (Nat.le_of_ble_eq_true rfl) (Nat.le_of_ble_eq_true rfl) (Nat.le_of_ble_eq_true rfl) dX0_init_138 ?_
  refine g_widen 68 2297 (Nat.le_of_ble_eq_true rfl) (Nat.le_of_ble_eq_true rfl) ?_
  exact g_vreti (c0 := 2) (ci := 0) (fl := [some 10, some 11, some 12, some 13, some 14, none, none, some 15, some 16, some 17, some 18, some 19, some 20, some 21, none, none]) hc rfl h0e rfl (rq_all [(10, 6)] (fun b j hb => by rw [fil_out (Or.inl (by simpa using hb))]; rfl) (fun b n hb j hj => by simp at hb; obtain ⟨rfl, rfl⟩ := hb; rw [fil_in hj]; rfl) (by decide +kernel)) dX0_init_141
theorem wj_195 : Cond.methodLink RX3 3 objectInit ∈ gtb := gm (List.mem_of_getElem? (i := 195) (by decide +kernel)) rfl
theorem wj_196 : Cond.classLink RX3 9 ("[" ++ (FieldType.array .int).toString) ∈ gtb := gm (List.mem_of_getElem? (i := 196) (by decide +kernel)) rfl
theorem qG_2_0 : fsF RX3 0 (RX3, TX3, 3) (.array (.array .int)) := ⟨rfl, rfl, by decide +kernel, tyX3, tyX3_ok, nmX3⟩
theorem qG_2_1 : fsF RX3 1 (RX3, TX3, 3) (.array .int) := ⟨rfl, rfl, by decide +kernel, tyX3, tyX3_ok, nmX3⟩
theorem qG_2_2 : fsF RX3 2 (RX3, TX3, 3) (.array .int) := ⟨rfl, rfl, by decide +kernel, tyX3, tyX3_ok, nmX3⟩
abbrev mX3_init : Mth := (yX3_init, cX3_init, 1, none)
abbrev tX3_i : Sd := (4, .inr (.inr (2, [some 24, some 25, some 26]))) :: ((([] ++ ((24, .inr (.inl (4, 210))) :: (List.range 4).map (fun i => (210 + i, .inl 60)))) ++ [(25, .inl 4)]) ++ [(26, .inl 4)])
theorem kX3_init : cti mX3_init 1 7 252 4 2 [.null, .null, .null] tX3_i := by
  refine met_of_gw (sg0 := zer) (by decide +kernel) rfl (Nat.le_of_ble_eq_true rfl) (fun _ => rfl) ?_
  intro p l e s m below meth c D cI cQ A h0 ad hc ho hin hA h0e
  refine g_aload_n hc (k0 := 0) (x := 4) rfl dX3_init_0 ?_
  refine g_obj hc wj_195 (Nat.le_of_ble_eq_true rfl) (Nat.le_of_ble_eq_true rfl) (Nat.le_of_ble_eq_true rfl) dX3_init_1 ?_
  refine g_aload_n hc (k0 := 0) (x := 4) rfl dX3_init_4 ?_
  refine g_iconst hc (v := 4) (by decide) dX3_init_5 ?_
  refine g_bipush hc (v := 60) (by decide) dX3_init_6 ?_
  refine g_mna hc ho hA 24 210 4 60 wj_196 h0e (by decide +kernel) (Nat.le_of_ble_eq_true rfl) (by decide +kernel) (fun _ _ _ => rfl) (by decide) (by decide) (by decide +kernel) (by decide +kernel) (Nat.le_of_ble_eq_true rfl) (Nat.le_of_ble_eq_true rfl) (Nat.le_of_ble_eq_true rfl) (Nat.le_of_ble_eq_true rfl) dX3_init_8 (fun ad h0e => ?_)
  refine g_putF hc hin qF_RX3_11 qG_2_0 (Nat.le_of_ble_eq_true rfl) (fun _ => rfl) (fun _ => rfl) dX3_init_12 ?_
  show gw _ _ _ _ _ _ _ _ _ _ _ _ _ _ _ _ [(4, 2, [.ref 24, .null, .null])] _ _ _ _ _ _ _ _
  refine g_aload_n hc (k0 := 0) (x := 4) rfl dX3_init_15 ?_
  refine g_iconst hc (v := 4) (by decide) dX3_init_16 ?_
  refine g_newa hc hA 25 4 h0e rfl (by decide +kernel) (fun _ => rfl) (by decide) (by decide +kernel) (Nat.le_of_ble_eq_true rfl) (Nat.le_of_ble_eq_true rfl) (Nat.le_of_ble_eq_true rfl) dX3_init_17 (fun ad h0e => ?_)
  refine g_putF hc hin qF_RX3_16 qG_2_1 (Nat.le_of_ble_eq_true rfl) (fun _ => rfl) (fun _ => rfl) dX3_init_19 ?_
  show gw _ _ _ _ _ _ _ _ _ _ _ _ _ _ _ _ [(4, 2, [.ref 24, .ref 25, .null])] _ _ _ _ _ _ _ _
  refine g_aload_n hc (k0 := 0) (x := 4) rfl dX3_init_22 ?_
  refine g_iconst hc (v := 4) (by decide) dX3_init_23 ?_
  refine g_newa hc hA 26 4 h0e rfl (by decide +kernel) (fun _ => rfl) (by decide) (by decide +kernel) (Nat.le_of_ble_eq_true rfl) (Nat.le_of_ble_eq_true rfl) (Nat.le_of_ble_eq_true rfl) dX3_init_24 (fun ad h0e => ?_)
  refine g_putF hc hin qF_RX3_20 qG_2_2 (Nat.le_of_ble_eq_true rfl) (fun _ => rfl) (fun _ => rfl) dX3_init_26 ?_
  show gw _ _ _ _ _ _ _ _ _ _ _ _ _ _ _ _ [(4, 2, [.ref 24, .ref 25, .ref 26])] _ _ _ _ _ _ _ _
  refine g_aload_n hc (k0 := 0) (x := 4) rfl dX3_init_29 ?_
  refine g_getX hc (v := .ref 25) qF_RX3_16 rfl dX3_init_30 ?_
  refine g_iconst hc (v := -1) (by decide) dX3_init_33 ?_
  refine g_fill hc hA (ta := (tX3_i.drop 1).take 5) (tz := (tX3_i.drop 1).drop 6) (c1 := 25) (n := 4) (d := 0) rfl (by decide +kernel) (by decide) qS_RX3_23 (Nat.le_of_ble_eq_true rfl) (Nat.le_of_ble_eq_true rfl) (Nat.le_of_ble_eq_true rfl) (Nat.le_of_ble_eq_true rfl) (Nat.le_of_ble_eq_true rfl) dX3_init_34 ?_
  refine g_widen 7 252 (Nat.le_of_ble_eq_true rfl) (Nat.le_of_ble_eq_true rfl) ?_
  exact g_vreti (c0 := 4) (ci := 2) (fl := [some 24, some 25, some 26]) hc rfl h0e rfl (rq_all [(25, 4)] (fun b j hb => by rw [fil_out (Or.inl (by simpa using hb))]; rfl) (fun b n hb j hj => by simp at hb; obtain ⟨rfl, rfl⟩ := hb; rw [fil_in hj]; rfl) (by decide +kernel)) dX3_init_37
