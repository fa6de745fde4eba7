/-! the constructors of the class and of the reference -/
theorem wj_83 : Cond.methodLink RX6 3 objectInit ∈ gtb := gm (List.mem_of_getElem? (i := 83) (by decide +kernel)) rfl
theorem wj_86 : Cond.classLink RX6 9 RX4 ∈ gtb := gm (List.mem_of_getElem? (i := 86) (by decide +kernel)) rfl
theorem wj_87 : Cond.instantiable RX4 3 ∈ gtb := gm (List.mem_of_getElem? (i := 87) (by decide +kernel)) rfl
theorem wj_68 : Cond.initialized RX4 ∈ gtb := gm (List.mem_of_getElem? (i := 68) (by decide +kernel)) rfl
theorem df_3 : ∀ j, j < 3 → defaultValue (tyX4 j) = vp_V [.null, .null, .int 0] j := fun j hj => by
  rcases (show j = 0 ∨ j = 1 ∨ j = 2 by omega) with rfl | rfl | rfl <;> rfl
theorem wj_88 : Cond.methodLinkNest RX6 11 yX4_init "BurstBounds" ∈ lw_tbl := List.mem_of_getElem? (i := 88) (by decide +kernel)
theorem wj_89 : Cond.instanceMethod yX4_init ∈ gtb := gm (List.mem_of_getElem? (i := 89) (by decide +kernel)) rfl
theorem wj_90 : Cond.code yX4_init cX4_init 1 none ∈ gtb := gm (List.mem_of_getElem? (i := 90) (by decide +kernel)) rfl
theorem qI_RX6_11 : cIt RX6 11 mX4_init (some "BurstBounds") := ⟨wj_88, wj_89, wj_68, wj_90, rfl, rfl, ⟨by decide +kernel, by decide +kernel, by decide +kernel⟩⟩
theorem qG_5_0 : fsF RX6 0 (RX6, TX6, 9) (.object "BurstBounds$Stairs") := ⟨rfl, rfl, by decide +kernel, tyX6, tyX6_ok, nmX6⟩
theorem wj_107 : Cond.classLink RX6 18 RX0 ∈ gtb := gm (List.mem_of_getElem? (i := 107) (by decide +kernel)) rfl
theorem wj_108 : Cond.instantiable RX0 16 ∈ gtb := gm (List.mem_of_getElem? (i := 108) (by decide +kernel)) rfl
theorem wj_69 : Cond.initialized RX0 ∈ gtb := gm (List.mem_of_getElem? (i := 69) (by decide +kernel)) rfl
theorem df_0 : ∀ j, j < 16 → defaultValue (tyX0 j) = vp_V [.null, .null, .null, .null, .null, .int 0, .int 0, .null, .null, .null, .null, .null, .null, .null, .int 0, .int 0] j := fun j hj => by
  rcases (show j = 0 ∨ j = 1 ∨ j = 2 ∨ j = 3 ∨ j = 4 ∨ j = 5 ∨ j = 6 ∨ j = 7 ∨ j = 8 ∨ j = 9 ∨ j = 10 ∨ j = 11 ∨ j = 12 ∨ j = 13 ∨ j = 14 ∨ j = 15 by omega) with rfl | rfl | rfl | rfl | rfl | rfl | rfl | rfl | rfl | rfl | rfl | rfl | rfl | rfl | rfl | rfl <;> rfl
theorem wj_109 : Cond.methodLink RX6 20 yX0_init ∈ gtb := gm (List.mem_of_getElem? (i := 109) (by decide +kernel)) rfl
theorem wj_110 : Cond.instanceMethod yX0_init ∈ gtb := gm (List.mem_of_getElem? (i := 110) (by decide +kernel)) rfl
theorem wj_111 : Cond.code yX0_init cX0_init 1 none ∈ gtb := gm (List.mem_of_getElem? (i := 111) (by decide +kernel)) rfl
theorem qI_RX6_20 : cIt RX6 20 mX0_init none := ⟨wj_109, wj_110, wj_69, wj_111, rfl, rfl, ⟨by decide +kernel, by decide +kernel, by decide +kernel⟩⟩
theorem qG_5_1 : fsF RX6 1 (RX6, TX6, 9) (.object "BurstBounds$Network") := ⟨rfl, rfl, by decide +kernel, tyX6, tyX6_ok, nmX6⟩
theorem wj_172 : Cond.classLink RX6 25 RX2 ∈ gtb := gm (List.mem_of_getElem? (i := 172) (by decide +kernel)) rfl
theorem wj_173 : Cond.instantiable RX2 3 ∈ gtb := gm (List.mem_of_getElem? (i := 173) (by decide +kernel)) rfl
theorem wj_71 : Cond.initialized RX2 ∈ gtb := gm (List.mem_of_getElem? (i := 71) (by decide +kernel)) rfl
theorem df_1 : ∀ j, j < 3 → defaultValue (tyX2 j) = vp_V [.null, .null, .int 0] j := fun j hj => by
  rcases (show j = 0 ∨ j = 1 ∨ j = 2 by omega) with rfl | rfl | rfl <;> rfl
theorem wj_174 : Cond.methodLinkNest RX6 27 yX2_init "BurstBounds" ∈ lw_tbl := List.mem_of_getElem? (i := 174) (by decide +kernel)
theorem wj_175 : Cond.instanceMethod yX2_init ∈ gtb := gm (List.mem_of_getElem? (i := 175) (by decide +kernel)) rfl
theorem wj_176 : Cond.code yX2_init cX2_init 1 none ∈ gtb := gm (List.mem_of_getElem? (i := 176) (by decide +kernel)) rfl
theorem qI_RX6_27 : cIt RX6 27 mX2_init (some "BurstBounds") := ⟨wj_174, wj_175, wj_71, wj_176, rfl, rfl, ⟨by decide +kernel, by decide +kernel, by decide +kernel⟩⟩
theorem qG_5_2 : fsF RX6 2 (RX6, TX6, 9) (.object "BurstBounds$Seen") := ⟨rfl, rfl, by decide +kernel, tyX6, tyX6_ok, nmX6⟩
theorem wj_190 : Cond.classLink RX6 32 RX3 ∈ gtb := gm (List.mem_of_getElem? (i := 190) (by decide +kernel)) rfl
theorem wj_191 : Cond.instantiable RX3 3 ∈ gtb := gm (List.mem_of_getElem? (i := 191) (by decide +kernel)) rfl
theorem wj_72 : Cond.initialized RX3 ∈ gtb := gm (List.mem_of_getElem? (i := 72) (by decide +kernel)) rfl
theorem df_2 : ∀ j, j < 3 → defaultValue (tyX3 j) = vp_V [.null, .null, .null] j := fun j hj => by
  rcases (show j = 0 ∨ j = 1 ∨ j = 2 by omega) with rfl | rfl | rfl <;> rfl
theorem wj_192 : Cond.methodLink RX6 34 yX3_init ∈ gtb := gm (List.mem_of_getElem? (i := 192) (by decide +kernel)) rfl
theorem wj_193 : Cond.instanceMethod yX3_init ∈ gtb := gm (List.mem_of_getElem? (i := 193) (by decide +kernel)) rfl
theorem wj_194 : Cond.code yX3_init cX3_init 1 none ∈ gtb := gm (List.mem_of_getElem? (i := 194) (by decide +kernel)) rfl
theorem qI_RX6_34 : cIt RX6 34 mX3_init none := ⟨wj_192, wj_193, wj_72, wj_194, rfl, rfl, ⟨by decide +kernel, by decide +kernel, by decide +kernel⟩⟩
theorem qG_5_3 : fsF RX6 3 (RX6, TX6, 9) (.object "BurstBounds$Sheets") := ⟨rfl, rfl, by decide +kernel, tyX6, tyX6_ok, nmX6⟩
theorem wj_209 : Cond.classLink RX6 39 RX5 ∈ gtb := gm (List.mem_of_getElem? (i := 209) (by decide +kernel)) rfl
theorem wj_210 : Cond.instantiable RX5 8 ∈ gtb := gm (List.mem_of_getElem? (i := 210) (by decide +kernel)) rfl
theorem wj_73 : Cond.initialized RX5 ∈ gtb := gm (List.mem_of_getElem? (i := 73) (by decide +kernel)) rfl
theorem df_4 : ∀ j, j < 8 → defaultValue (tyX5 j) = vp_V [.null, .null, .null, .int 0, .int 0, .int 0, .int 0, .int 0] j := fun j hj => by
  rcases (show j = 0 ∨ j = 1 ∨ j = 2 ∨ j = 3 ∨ j = 4 ∨ j = 5 ∨ j = 6 ∨ j = 7 by omega) with rfl | rfl | rfl | rfl | rfl | rfl | rfl | rfl <;> rfl
theorem wj_211 : Cond.methodLinkNest RX6 41 yX5_init "BurstBounds" ∈ lw_tbl := List.mem_of_getElem? (i := 211) (by decide +kernel)
theorem wj_212 : Cond.instanceMethod yX5_init ∈ gtb := gm (List.mem_of_getElem? (i := 212) (by decide +kernel)) rfl
theorem wj_213 : Cond.code yX5_init cX5_init 1 none ∈ gtb := gm (List.mem_of_getElem? (i := 213) (by decide +kernel)) rfl
theorem qI_RX6_41 : cIt RX6 41 mX5_init (some "BurstBounds") := ⟨wj_211, wj_212, wj_73, wj_213, rfl, rfl, ⟨by decide +kernel, by decide +kernel, by decide +kernel⟩⟩
theorem qG_5_4 : fsF RX6 4 (RX6, TX6, 9) (.object "BurstBounds$TextReader") := ⟨rfl, rfl, by decide +kernel, tyX6, tyX6_ok, nmX6⟩
theorem qG_5_5 : fsF RX6 5 (RX6, TX6, 9) (.array .int) := ⟨rfl, rfl, by decide +kernel, tyX6, tyX6_ok, nmX6⟩
theorem qG_5_6 : fsF RX6 6 (RX6, TX6, 9) (.array .int) := ⟨rfl, rfl, by decide +kernel, tyX6, tyX6_ok, nmX6⟩
abbrev mX6_init : Mth := (yX6_init, cX6_init, 1, none)
abbrev tX6_i : Sd := (0, .inr (.inr (5, [some 1, some 2, some 3, some 4, some 5, some 6, some 7, none, none]))) :: ((((((([] ++ tX4_i) ++ tX0_i) ++ tX2_i) ++ tX3_i) ++ tX5_i) ++ [(6, .inl 60)]) ++ [(7, .inl 41)])
theorem kX6_init : cti mX6_init 2 113 3939 0 5 [.null, .null, .null, .null, .null, .null, .null, .int 0, .int 0] tX6_i := by
  refine met_of_gw (sg0 := ini) (by decide +kernel) rfl (Nat.le_of_ble_eq_true rfl) (fun _ => rfl) ?_
  intro p l e s m below meth c D cI cQ A h0 ad hc ho hin hA h0e
  refine g_aload_n hc (k0 := 0) (x := 0) rfl dX6_init_0 ?_
  refine g_obj hc wj_83 (Nat.le_of_ble_eq_true rfl) (Nat.le_of_ble_eq_true rfl) (Nat.le_of_ble_eq_true rfl) dX6_init_1 ?_
  refine g_aload_n hc (k0 := 0) (x := 0) rfl dX6_init_4 ?_
  refine g_new hc hA 1 3 tyX4 [.null, .null, .int 0] rfl lay_3 tyX4_ok df_3 (fun _ => rfl) wj_86 wj_87 wj_68 h0e rfl (by decide +kernel) (Nat.le_of_ble_eq_true rfl) (Nat.le_of_ble_eq_true rfl) dX6_init_5 (fun ad h0e => ?_)
  refine g_dup hc rfl dX6_init_8 ?_
  refine g_callI hc ho hA (d := 1) (mc1 := 26) (ms1 := 1032) (t1 := tX4_i) qI_RX6_11 kX4_init (fun _ => rfl) (Nat.le_of_ble_eq_true rfl) (Nat.le_of_ble_eq_true rfl) (Nat.le_of_ble_eq_true rfl) (Nat.le_of_ble_eq_true rfl) h0e (by decide +kernel) (by decide +kernel) (by decide +kernel) (Nat.le_of_ble_eq_true rfl) dX6_init_9 (fun ad h0e => ?_)
  refine g_putF hc hin qF_RX6_12 qG_5_0 (Nat.le_of_ble_eq_true rfl) (fun _ => rfl) (fun _ => rfl) dX6_init_12 ?_
  show gw _ _ _ _ _ _ _ _ _ _ _ _ _ _ _ _ [(0, 5, [.ref 1, .null, .null, .null, .null, .null, .null, .int 0, .int 0])] _ _ _ _ _ _ _ _
  refine g_aload_n hc (k0 := 0) (x := 0) rfl dX6_init_15 ?_
  refine g_new hc hA 2 0 tyX0 [.null, .null, .null, .null, .null, .int 0, .int 0, .null, .null, .null, .null, .null, .null, .null, .int 0, .int 0] rfl lay_0 tyX0_ok df_0 (fun _ => rfl) wj_107 wj_108 wj_69 h0e rfl (by decide +kernel) (Nat.le_of_ble_eq_true rfl) (Nat.le_of_ble_eq_true rfl) dX6_init_16 (fun ad h0e => ?_)
  refine g_dup hc rfl dX6_init_19 ?_
  refine g_callI hc ho hA (d := 1) (mc1 := 68) (ms1 := 2297) (t1 := tX0_i) qI_RX6_20 kX0_init (fun _ => rfl) (Nat.le_of_ble_eq_true rfl) (Nat.le_of_ble_eq_true rfl) (Nat.le_of_ble_eq_true rfl) (Nat.le_of_ble_eq_true rfl) h0e (by decide +kernel) (by decide +kernel) (by decide +kernel) (Nat.le_of_ble_eq_true rfl) dX6_init_20 (fun ad h0e => ?_)
  refine g_putF hc hin qF_RX6_21 qG_5_1 (Nat.le_of_ble_eq_true rfl) (fun _ => rfl) (fun _ => rfl) dX6_init_23 ?_
  show gw _ _ _ _ _ _ _ _ _ _ _ _ _ _ _ _ [(0, 5, [.ref 1, .ref 2, .null, .null, .null, .null, .null, .int 0, .int 0])] _ _ _ _ _ _ _ _
  refine g_aload_n hc (k0 := 0) (x := 0) rfl dX6_init_26 ?_
  refine g_new hc hA 3 1 tyX2 [.null, .null, .int 0] rfl lay_1 tyX2_ok df_1 (fun _ => rfl) wj_172 wj_173 wj_71 h0e rfl (by decide +kernel) (Nat.le_of_ble_eq_true rfl) (Nat.le_of_ble_eq_true rfl) dX6_init_27 (fun ad h0e => ?_)
  refine g_dup hc rfl dX6_init_30 ?_
  refine g_callI hc ho hA (d := 1) (mc1 := 2) (ms1 := 82) (t1 := tX2_i) qI_RX6_27 kX2_init (fun _ => rfl) (Nat.le_of_ble_eq_true rfl) (Nat.le_of_ble_eq_true rfl) (Nat.le_of_ble_eq_true rfl) (Nat.le_of_ble_eq_true rfl) h0e (by decide +kernel) (by decide +kernel) (by decide +kernel) (Nat.le_of_ble_eq_true rfl) dX6_init_31 (fun ad h0e => ?_)
  refine g_putF hc hin qF_RX6_28 qG_5_2 (Nat.le_of_ble_eq_true rfl) (fun _ => rfl) (fun _ => rfl) dX6_init_34 ?_
  show gw _ _ _ _ _ _ _ _ _ _ _ _ _ _ _ _ [(0, 5, [.ref 1, .ref 2, .ref 3, .null, .null, .null, .null, .int 0, .int 0])] _ _ _ _ _ _ _ _
  refine g_aload_n hc (k0 := 0) (x := 0) rfl dX6_init_37 ?_
  refine g_new hc hA 4 2 tyX3 [.null, .null, .null] rfl lay_2 tyX3_ok df_2 (fun _ => rfl) wj_190 wj_191 wj_72 h0e rfl (by decide +kernel) (Nat.le_of_ble_eq_true rfl) (Nat.le_of_ble_eq_true rfl) dX6_init_38 (fun ad h0e => ?_)
  refine g_dup hc rfl dX6_init_41 ?_
  refine g_callI hc ho hA (d := 1) (mc1 := 7) (ms1 := 252) (t1 := tX3_i) qI_RX6_34 kX3_init (fun _ => rfl) (Nat.le_of_ble_eq_true rfl) (Nat.le_of_ble_eq_true rfl) (Nat.le_of_ble_eq_true rfl) (Nat.le_of_ble_eq_true rfl) h0e (by decide +kernel) (by decide +kernel) (by decide +kernel) (Nat.le_of_ble_eq_true rfl) dX6_init_42 (fun ad h0e => ?_)
  refine g_putF hc hin qF_RX6_35 qG_5_3 (Nat.le_of_ble_eq_true rfl) (fun _ => rfl) (fun _ => rfl) dX6_init_45 ?_
  show gw _ _ _ _ _ _ _ _ _ _ _ _ _ _ _ _ [(0, 5, [.ref 1, .ref 2, .ref 3, .ref 4, .null, .null, .null, .int 0, .int 0])] _ _ _ _ _ _ _ _
  refine g_aload_n hc (k0 := 0) (x := 0) rfl dX6_init_48 ?_
  refine g_new hc hA 5 4 tyX5 [.null, .null, .null, .int 0, .int 0, .int 0, .int 0, .int 0] rfl lay_4 tyX5_ok df_4 (fun _ => rfl) wj_209 wj_210 wj_73 h0e rfl (by decide +kernel) (Nat.le_of_ble_eq_true rfl) (Nat.le_of_ble_eq_true rfl) dX6_init_49 (fun ad h0e => ?_)
  refine g_dup hc rfl dX6_init_52 ?_
  refine g_callI hc ho hA (d := 1) (mc1 := 3) (ms1 := 142) (t1 := tX5_i) qI_RX6_41 kX5_init (fun _ => rfl) (Nat.le_of_ble_eq_true rfl) (Nat.le_of_ble_eq_true rfl) (Nat.le_of_ble_eq_true rfl) (Nat.le_of_ble_eq_true rfl) h0e (by decide +kernel) (by decide +kernel) (by decide +kernel) (Nat.le_of_ble_eq_true rfl) dX6_init_53 (fun ad h0e => ?_)
  refine g_putF hc hin qF_RX6_42 qG_5_4 (Nat.le_of_ble_eq_true rfl) (fun _ => rfl) (fun _ => rfl) dX6_init_56 ?_
  show gw _ _ _ _ _ _ _ _ _ _ _ _ _ _ _ _ [(0, 5, [.ref 1, .ref 2, .ref 3, .ref 4, .ref 5, .null, .null, .int 0, .int 0])] _ _ _ _ _ _ _ _
  refine g_aload_n hc (k0 := 0) (x := 0) rfl dX6_init_59 ?_
  refine g_bipush hc (v := 60) (by decide) dX6_init_60 ?_
  refine g_newa hc hA 6 60 h0e rfl (by decide +kernel) (fun _ => rfl) (by decide) (by decide +kernel) (Nat.le_of_ble_eq_true rfl) (Nat.le_of_ble_eq_true rfl) (Nat.le_of_ble_eq_true rfl) dX6_init_62 (fun ad h0e => ?_)
  refine g_putF hc hin qF_RX6_46 qG_5_5 (Nat.le_of_ble_eq_true rfl) (fun _ => rfl) (fun _ => rfl) dX6_init_64 ?_
  show gw _ _ _ _ _ _ _ _ _ _ _ _ _ _ _ _ [(0, 5, [.ref 1, .ref 2, .ref 3, .ref 4, .ref 5, .ref 6, .null, .int 0, .int 0])] _ _ _ _ _ _ _ _
  refine g_aload_n hc (k0 := 0) (x := 0) rfl dX6_init_67 ?_
  refine g_bipush hc (v := 41) (by decide) dX6_init_68 ?_
  refine g_newa hc hA 7 41 h0e rfl (by decide +kernel) (fun _ => rfl) (by decide) (by decide +kernel) (Nat.le_of_ble_eq_true rfl) (Nat.le_of_ble_eq_true rfl) (Nat.le_of_ble_eq_true rfl) dX6_init_70 (fun ad h0e => ?_)
  refine g_putF hc hin qF_RX6_50 qG_5_6 (Nat.le_of_ble_eq_true rfl) (fun _ => rfl) (fun _ => rfl) dX6_init_72 ?_
  show gw _ _ _ _ _ _ _ _ _ _ _ _ _ _ _ _ [(0, 5, [.ref 1, .ref 2, .ref 3, .ref 4, .ref 5, .ref 6, .ref 7, .int 0, .int 0])] _ _ _ _ _ _ _ _
  refine g_aload_n hc (k0 := 0) (x := 0) rfl dX6_init_75 ?_
  refine g_iconst hc (v := 0) (by decide) dX6_init_76 ?_
  refine g_putX hc qF_RX6_53 qP_5_7 (Nat.le_of_ble_eq_true rfl) (fun _ => rfl) (fun _ => rfl) dX6_init_77 ?_
  show gw _ _ _ _ _ _ _ _ _ _ _ _ _ _ _ _ [(0, 5, [.ref 1, .ref 2, .ref 3, .ref 4, .ref 5, .ref 6, .ref 7, .int 0, .int 0])] _ _ _ _ _ _ _ _
  refine g_aload_n hc (k0 := 0) (x := 0) rfl dX6_init_80 ?_
  refine g_iconst hc (v := 0) (by decide) dX6_init_81 ?_
  refine g_putX hc qF_RX6_57 qP_5_8 (Nat.le_of_ble_eq_true rfl) (fun _ => rfl) (fun _ => rfl) dX6_init_82 ?_
  show gw _ _ _ _ _ _ _ _ _ _ _ _ _ _ _ _ [(0, 5, [.ref 1, .ref 2, .ref 3, .ref 4, .ref 5, .ref 6, .ref 7, .int 0, .int 0])] _ _ _ _ _ _ _ _
  refine g_widen 113 3939 (Nat.le_of_ble_eq_true rfl) (Nat.le_of_ble_eq_true rfl) ?_
  exact g_vreti (c0 := 0) (ci := 5) (fl := [some 1, some 2, some 3, some 4, some 5, some 6, some 7, none, none]) hc rfl h0e rfl (fun q _ => rq_rf) dX6_init_85
theorem wj_768 : Cond.methodLink RX7 1 objectInit ∈ gtb := gm (List.mem_of_getElem? (i := 768) (by decide +kernel)) rfl
theorem qG_6_2 : fsF RX7 2 (RX7, TX7, 25) (.array .int) := ⟨rfl, rfl, by decide +kernel, tyX7, tyX7_ok, nmX7⟩
theorem qG_6_3 : fsF RX7 3 (RX7, TX7, 25) (.array .int) := ⟨rfl, rfl, by decide +kernel, tyX7, tyX7_ok, nmX7⟩
theorem qG_6_7 : fsF RX7 7 (RX7, TX7, 25) (.array .int) := ⟨rfl, rfl, by decide +kernel, tyX7, tyX7_ok, nmX7⟩
theorem qG_6_8 : fsF RX7 8 (RX7, TX7, 25) (.array .int) := ⟨rfl, rfl, by decide +kernel, tyX7, tyX7_ok, nmX7⟩
theorem qG_6_9 : fsF RX7 9 (RX7, TX7, 25) (.array .int) := ⟨rfl, rfl, by decide +kernel, tyX7, tyX7_ok, nmX7⟩
theorem qG_6_11 : fsF RX7 11 (RX7, TX7, 25) (.array .int) := ⟨rfl, rfl, by decide +kernel, tyX7, tyX7_ok, nmX7⟩
theorem qG_6_13 : fsF RX7 13 (RX7, TX7, 25) (.array .int) := ⟨rfl, rfl, by decide +kernel, tyX7, tyX7_ok, nmX7⟩
theorem qG_6_14 : fsF RX7 14 (RX7, TX7, 25) (.array .int) := ⟨rfl, rfl, by decide +kernel, tyX7, tyX7_ok, nmX7⟩
theorem qG_6_15 : fsF RX7 15 (RX7, TX7, 25) (.array .int) := ⟨rfl, rfl, by decide +kernel, tyX7, tyX7_ok, nmX7⟩
theorem qG_6_17 : fsF RX7 17 (RX7, TX7, 25) (.array .int) := ⟨rfl, rfl, by decide +kernel, tyX7, tyX7_ok, nmX7⟩
theorem qG_6_18 : fsF RX7 18 (RX7, TX7, 25) (.array .int) := ⟨rfl, rfl, by decide +kernel, tyX7, tyX7_ok, nmX7⟩
theorem qG_6_20 : fsF RX7 20 (RX7, TX7, 25) (.array .int) := ⟨rfl, rfl, by decide +kernel, tyX7, tyX7_ok, nmX7⟩
theorem qG_6_21 : fsF RX7 21 (RX7, TX7, 25) (.array .int) := ⟨rfl, rfl, by decide +kernel, tyX7, tyX7_ok, nmX7⟩
theorem qG_6_22 : fsF RX7 22 (RX7, TX7, 25) (.array .int) := ⟨rfl, rfl, by decide +kernel, tyX7, tyX7_ok, nmX7⟩
theorem qG_6_23 : fsF RX7 23 (RX7, TX7, 25) (.array .int) := ⟨rfl, rfl, by decide +kernel, tyX7, tyX7_ok, nmX7⟩
abbrev mX7_init : Mth := (yX7_init, cX7_init, 2, none)
abbrev vX7_i : List Value := [.int 0, .int 0, .ref 302, .ref 303, .int 0, .int 0, .int 0, .ref 307, .ref 308, .ref 309, .int 0, .ref 311, .int 0, .ref 313, .ref 314, .ref 315, .int 0, .ref 317, .ref 318, .int 0, .ref 320, .ref 321, .ref 322, .ref 323, .int 0]
abbrev uX7_i : Sd := ((((((((((((((([] ++ [(302, .inl 24)]) ++ [(303, .inl 3690)]) ++ [(307, .inl 6)]) ++ [(308, .inl 6)]) ++ [(309, .inl 6)]) ++ [(311, .inl 6)]) ++ [(313, .inl 5)]) ++ [(314, .inl 5)]) ++ [(315, .inl 20)]) ++ [(317, .inl 6)]) ++ [(318, .inl 20)]) ++ [(320, .inl 4)]) ++ [(321, .inl 4)]) ++ [(322, .inl 240)]) ++ [(323, .inl 60)])
abbrev tX7_i : Sd := (300, .inr (.inr (6, [none, none, some 302, some 303, none, none, none, some 307, some 308, some 309, none, some 311, none, some 313, some 314, some 315, none, some 317, some 318, none, some 320, some 321, some 322, some 323, none]))) :: uX7_i
theorem x7_l1 {p : Program} {l : Launch} {e : Env} {R : Room} {s : State} {m : MethodId} {args : Array Value} {below : List Frame} {meth : Method} {c : Code} {D : va_G} {cI cQ : ClassId} {A : Nat → Prop} {Z : State → Prop} {ad : Nat → Nat} {mc ms : Nat} {sg : Hp} (hc : cxt mX7_init p s m args meth c D cI cQ) (k : gw mX7_init p l e R s m args below meth c D cI cQ A Z [(300, 6, vX7_i)] ad uX7_i mc ms 144 [(0, .ref 300), (1, .int (nI 6))] [] (fil sg 311 (fun _ => -9) 6)) : ∀ (n t : Nat), t + n = 6 → gw mX7_init p l e R s m args below meth c D cI cQ A Z [(300, 6, vX7_i)] ad uX7_i mc ms 124 [(0, .ref 300), (1, .int (nI t))] [] (fil sg 311 (fun _ => -9) t)
  | 0, t, h => by
    have h : t = 6 := h
    subst h
    refine g_iload_n hc (k0 := 1) (x := nI 6) rfl dX7_init_124 ?_
    refine g_bipush hc (v := nI 6) (by decide) dX7_init_125 ?_
    exact g_icmp_ge hc (tgt := 144) dX7_init_127 (by decide) (fun _ => k) (fun z => absurd (Int32.le_refl _) z)
  | n + 1, t, h => by
    have ht : t < 6 := by omega
    refine g_iload_n hc (k0 := 1) (x := nI t) rfl dX7_init_124 ?_
    refine g_bipush hc (v := nI 6) (by decide) dX7_init_125 ?_
    refine g_icmp_ge hc (tgt := 144) dX7_init_127 (by decide) (fun z => absurd z (nI_ge ht (by decide))) (fun _ => ?_)
    refine g_aload_n hc (k0 := 0) (x := 300) rfl dX7_init_130 ?_
    refine g_getX hc (v := .ref 311) qF_RX7_25 rfl dX7_init_131 ?_
    refine g_iload_n hc (k0 := 1) (x := nI t) rfl dX7_init_134 ?_
    refine g_bipush hc (v := -9) (by decide) dX7_init_135 ?_
    refine g_iast hc (k0 := 5) (n := 6) rfl (inb_in (inbN ht (by decide))) dX7_init_137 ?_
    refine g_iinc hc (w := 1) (x := nI t) (by decide) rfl (Nat.le_of_ble_eq_true rfl) rfl dX7_init_138 ?_
    refine g_goto hc (tgt := 124) dX7_init_141 (by decide) ?_
    rw [nI_clamp (show t < 2 ^ 31 by omega), fil_up rfl, nI_1]
    exact x7_l1 hc k n (t + 1) (by omega)
theorem x7_l2 {p : Program} {l : Launch} {e : Env} {R : Room} {s : State} {m : MethodId} {args : Array Value} {below : List Frame} {meth : Method} {c : Code} {D : va_G} {cI cQ : ClassId} {A : Nat → Prop} {Z : State → Prop} {ad : Nat → Nat} {mc ms : Nat} {sg : Hp} (hc : cxt mX7_init p s m args meth c D cI cQ) (k : gw mX7_init p l e R s m args below meth c D cI cQ A Z [(300, 6, vX7_i)] ad uX7_i mc ms 164 [(0, .ref 300), (1, .int (nI 4))] [] (fil sg 320 (fun _ => -1) 4)) : ∀ (n t : Nat), t + n = 4 → gw mX7_init p l e R s m args below meth c D cI cQ A Z [(300, 6, vX7_i)] ad uX7_i mc ms 146 [(0, .ref 300), (1, .int (nI t))] [] (fil sg 320 (fun _ => -1) t)
  | 0, t, h => by
    have h : t = 4 := h
    subst h
    refine g_iload_n hc (k0 := 1) (x := nI 4) rfl dX7_init_146 ?_
    refine g_iconst hc (v := nI 4) (by decide) dX7_init_147 ?_
    exact g_icmp_ge hc (tgt := 164) dX7_init_148 (by decide) (fun _ => k) (fun z => absurd (Int32.le_refl _) z)
  | n + 1, t, h => by
    have ht : t < 4 := by omega
    refine g_iload_n hc (k0 := 1) (x := nI t) rfl dX7_init_146 ?_
    refine g_iconst hc (v := nI 4) (by decide) dX7_init_147 ?_
    refine g_icmp_ge hc (tgt := 164) dX7_init_148 (by decide) (fun z => absurd z (nI_ge ht (by decide))) (fun _ => ?_)
    refine g_aload_n hc (k0 := 0) (x := 300) rfl dX7_init_151 ?_
    refine g_getX hc (v := .ref 320) qF_RX7_43 rfl dX7_init_152 ?_
    refine g_iload_n hc (k0 := 1) (x := nI t) rfl dX7_init_155 ?_
    refine g_iconst hc (v := -1) (by decide) dX7_init_156 ?_
    refine g_iast hc (k0 := 11) (n := 4) rfl (inb_in (inbN ht (by decide))) dX7_init_157 ?_
    refine g_iinc hc (w := 1) (x := nI t) (by decide) rfl (Nat.le_of_ble_eq_true rfl) rfl dX7_init_158 ?_
    refine g_goto hc (tgt := 146) dX7_init_161 (by decide) ?_
    rw [nI_clamp (show t < 2 ^ 31 by omega), fil_up rfl, nI_1]
    exact x7_l2 hc k n (t + 1) (by omega)
theorem kX7_init : cti mX7_init 1 15 4102 300 6 [.int 0, .int 0, .null, .null, .int 0, .int 0, .int 0, .null, .null, .null, .int 0, .null, .int 0, .null, .null, .null, .int 0, .null, .null, .int 0, .null, .null, .null, .null, .int 0] tX7_i := by
  refine met_of_gw (sg0 := zer) (by decide +kernel) rfl (Nat.le_of_ble_eq_true rfl) (fun _ => rfl) ?_
  intro p l e s m below meth c D cI cQ A h0 ad hc ho hin hA h0e
  refine g_aload_n hc (k0 := 0) (x := 300) rfl dX7_init_0 ?_
  refine g_obj hc wj_768 (Nat.le_of_ble_eq_true rfl) (Nat.le_of_ble_eq_true rfl) (Nat.le_of_ble_eq_true rfl) dX7_init_1 ?_
  refine g_aload_n hc (k0 := 0) (x := 300) rfl dX7_init_4 ?_
  refine g_bipush hc (v := 24) (by decide) dX7_init_5 ?_
  refine g_newa hc hA 302 24 h0e rfl (by decide +kernel) (fun _ => rfl) (by decide) (by decide +kernel) (Nat.le_of_ble_eq_true rfl) (Nat.le_of_ble_eq_true rfl) (Nat.le_of_ble_eq_true rfl) dX7_init_7 (fun ad h0e => ?_)
  refine g_putF hc hin qF_RX7_7 qG_6_2 (Nat.le_of_ble_eq_true rfl) (fun _ => rfl) (fun _ => rfl) dX7_init_9 ?_
  show gw _ _ _ _ _ _ _ _ _ _ _ _ _ _ _ _ [(300, 6, [.int 0, .int 0, .ref 302, .null, .int 0, .int 0, .int 0, .null, .null, .null, .int 0, .null, .int 0, .null, .null, .null, .int 0, .null, .null, .int 0, .null, .null, .null, .null, .int 0])] _ _ _ _ _ _ _ _
  refine g_aload_n hc (k0 := 0) (x := 300) rfl dX7_init_12 ?_
  refine g_sipush hc (v := 3690) (by decide) dX7_init_13 ?_
  refine g_newa hc hA 303 3690 h0e rfl (by decide +kernel) (fun _ => rfl) (by decide) (by decide +kernel) (Nat.le_of_ble_eq_true rfl) (Nat.le_of_ble_eq_true rfl) (Nat.le_of_ble_eq_true rfl) dX7_init_16 (fun ad h0e => ?_)
  refine g_putF hc hin qF_RX7_13 qG_6_3 (Nat.le_of_ble_eq_true rfl) (fun _ => rfl) (fun _ => rfl) dX7_init_18 ?_
  show gw _ _ _ _ _ _ _ _ _ _ _ _ _ _ _ _ [(300, 6, [.int 0, .int 0, .ref 302, .ref 303, .int 0, .int 0, .int 0, .null, .null, .null, .int 0, .null, .int 0, .null, .null, .null, .int 0, .null, .null, .int 0, .null, .null, .null, .null, .int 0])] _ _ _ _ _ _ _ _
  refine g_aload_n hc (k0 := 0) (x := 300) rfl dX7_init_21 ?_
  refine g_bipush hc (v := 6) (by decide) dX7_init_22 ?_
  refine g_newa hc hA 307 6 h0e rfl (by decide +kernel) (fun _ => rfl) (by decide) (by decide +kernel) (Nat.le_of_ble_eq_true rfl) (Nat.le_of_ble_eq_true rfl) (Nat.le_of_ble_eq_true rfl) dX7_init_24 (fun ad h0e => ?_)
  refine g_putF hc hin qF_RX7_16 qG_6_7 (Nat.le_of_ble_eq_true rfl) (fun _ => rfl) (fun _ => rfl) dX7_init_26 ?_
  show gw _ _ _ _ _ _ _ _ _ _ _ _ _ _ _ _ [(300, 6, [.int 0, .int 0, .ref 302, .ref 303, .int 0, .int 0, .int 0, .ref 307, .null, .null, .int 0, .null, .int 0, .null, .null, .null, .int 0, .null, .null, .int 0, .null, .null, .null, .null, .int 0])] _ _ _ _ _ _ _ _
  refine g_aload_n hc (k0 := 0) (x := 300) rfl dX7_init_29 ?_
  refine g_bipush hc (v := 6) (by decide) dX7_init_30 ?_
  refine g_newa hc hA 308 6 h0e rfl (by decide +kernel) (fun _ => rfl) (by decide) (by decide +kernel) (Nat.le_of_ble_eq_true rfl) (Nat.le_of_ble_eq_true rfl) (Nat.le_of_ble_eq_true rfl) dX7_init_32 (fun ad h0e => ?_)
  refine g_putF hc hin qF_RX7_19 qG_6_8 (Nat.le_of_ble_eq_true rfl) (fun _ => rfl) (fun _ => rfl) dX7_init_34 ?_
  show gw _ _ _ _ _ _ _ _ _ _ _ _ _ _ _ _ [(300, 6, [.int 0, .int 0, .ref 302, .ref 303, .int 0, .int 0, .int 0, .ref 307, .ref 308, .null, .int 0, .null, .int 0, .null, .null, .null, .int 0, .null, .null, .int 0, .null, .null, .null, .null, .int 0])] _ _ _ _ _ _ _ _
  refine g_aload_n hc (k0 := 0) (x := 300) rfl dX7_init_37 ?_
  refine g_bipush hc (v := 6) (by decide) dX7_init_38 ?_
  refine g_newa hc hA 309 6 h0e rfl (by decide +kernel) (fun _ => rfl) (by decide) (by decide +kernel) (Nat.le_of_ble_eq_true rfl) (Nat.le_of_ble_eq_true rfl) (Nat.le_of_ble_eq_true rfl) dX7_init_40 (fun ad h0e => ?_)
  refine g_putF hc hin qF_RX7_22 qG_6_9 (Nat.le_of_ble_eq_true rfl) (fun _ => rfl) (fun _ => rfl) dX7_init_42 ?_
  show gw _ _ _ _ _ _ _ _ _ _ _ _ _ _ _ _ [(300, 6, [.int 0, .int 0, .ref 302, .ref 303, .int 0, .int 0, .int 0, .ref 307, .ref 308, .ref 309, .int 0, .null, .int 0, .null, .null, .null, .int 0, .null, .null, .int 0, .null, .null, .null, .null, .int 0])] _ _ _ _ _ _ _ _
  refine g_aload_n hc (k0 := 0) (x := 300) rfl dX7_init_45 ?_
  refine g_bipush hc (v := 6) (by decide) dX7_init_46 ?_
  refine g_newa hc hA 311 6 h0e rfl (by decide +kernel) (fun _ => rfl) (by decide) (by decide +kernel) (Nat.le_of_ble_eq_true rfl) (Nat.le_of_ble_eq_true rfl) (Nat.le_of_ble_eq_true rfl) dX7_init_48 (fun ad h0e => ?_)
  refine g_putF hc hin qF_RX7_25 qG_6_11 (Nat.le_of_ble_eq_true rfl) (fun _ => rfl) (fun _ => rfl) dX7_init_50 ?_
  show gw _ _ _ _ _ _ _ _ _ _ _ _ _ _ _ _ [(300, 6, [.int 0, .int 0, .ref 302, .ref 303, .int 0, .int 0, .int 0, .ref 307, .ref 308, .ref 309, .int 0, .ref 311, .int 0, .null, .null, .null, .int 0, .null, .null, .int 0, .null, .null, .null, .null, .int 0])] _ _ _ _ _ _ _ _
  refine g_aload_n hc (k0 := 0) (x := 300) rfl dX7_init_53 ?_
  refine g_iconst hc (v := 5) (by decide) dX7_init_54 ?_
  refine g_newa hc hA 313 5 h0e rfl (by decide +kernel) (fun _ => rfl) (by decide) (by decide +kernel) (Nat.le_of_ble_eq_true rfl) (Nat.le_of_ble_eq_true rfl) (Nat.le_of_ble_eq_true rfl) dX7_init_55 (fun ad h0e => ?_)
  refine g_putF hc hin qF_RX7_28 qG_6_13 (Nat.le_of_ble_eq_true rfl) (fun _ => rfl) (fun _ => rfl) dX7_init_57 ?_
  show gw _ _ _ _ _ _ _ _ _ _ _ _ _ _ _ _ [(300, 6, [.int 0, .int 0, .ref 302, .ref 303, .int 0, .int 0, .int 0, .ref 307, .ref 308, .ref 309, .int 0, .ref 311, .int 0, .ref 313, .null, .null, .int 0, .null, .null, .int 0, .null, .null, .null, .null, .int 0])] _ _ _ _ _ _ _ _
  refine g_aload_n hc (k0 := 0) (x := 300) rfl dX7_init_60 ?_
  refine g_iconst hc (v := 5) (by decide) dX7_init_61 ?_
  refine g_newa hc hA 314 5 h0e rfl (by decide +kernel) (fun _ => rfl) (by decide) (by decide +kernel) (Nat.le_of_ble_eq_true rfl) (Nat.le_of_ble_eq_true rfl) (Nat.le_of_ble_eq_true rfl) dX7_init_62 (fun ad h0e => ?_)
  refine g_putF hc hin qF_RX7_31 qG_6_14 (Nat.le_of_ble_eq_true rfl) (fun _ => rfl) (fun _ => rfl) dX7_init_64 ?_
  show gw _ _ _ _ _ _ _ _ _ _ _ _ _ _ _ _ [(300, 6, [.int 0, .int 0, .ref 302, .ref 303, .int 0, .int 0, .int 0, .ref 307, .ref 308, .ref 309, .int 0, .ref 311, .int 0, .ref 313, .ref 314, .null, .int 0, .null, .null, .int 0, .null, .null, .null, .null, .int 0])] _ _ _ _ _ _ _ _
  refine g_aload_n hc (k0 := 0) (x := 300) rfl dX7_init_67 ?_
  refine g_bipush hc (v := 20) (by decide) dX7_init_68 ?_
  refine g_newa hc hA 315 20 h0e rfl (by decide +kernel) (fun _ => rfl) (by decide) (by decide +kernel) (Nat.le_of_ble_eq_true rfl) (Nat.le_of_ble_eq_true rfl) (Nat.le_of_ble_eq_true rfl) dX7_init_70 (fun ad h0e => ?_)
  refine g_putF hc hin qF_RX7_34 qG_6_15 (Nat.le_of_ble_eq_true rfl) (fun _ => rfl) (fun _ => rfl) dX7_init_72 ?_
  show gw _ _ _ _ _ _ _ _ _ _ _ _ _ _ _ _ [(300, 6, [.int 0, .int 0, .ref 302, .ref 303, .int 0, .int 0, .int 0, .ref 307, .ref 308, .ref 309, .int 0, .ref 311, .int 0, .ref 313, .ref 314, .ref 315, .int 0, .null, .null, .int 0, .null, .null, .null, .null, .int 0])] _ _ _ _ _ _ _ _
  refine g_aload_n hc (k0 := 0) (x := 300) rfl dX7_init_75 ?_
  refine g_bipush hc (v := 6) (by decide) dX7_init_76 ?_
  refine g_newa hc hA 317 6 h0e rfl (by decide +kernel) (fun _ => rfl) (by decide) (by decide +kernel) (Nat.le_of_ble_eq_true rfl) (Nat.le_of_ble_eq_true rfl) (Nat.le_of_ble_eq_true rfl) dX7_init_78 (fun ad h0e => ?_)
  refine g_putF hc hin qF_RX7_37 qG_6_17 (Nat.le_of_ble_eq_true rfl) (fun _ => rfl) (fun _ => rfl) dX7_init_80 ?_
  show gw _ _ _ _ _ _ _ _ _ _ _ _ _ _ _ _ [(300, 6, [.int 0, .int 0, .ref 302, .ref 303, .int 0, .int 0, .int 0, .ref 307, .ref 308, .ref 309, .int 0, .ref 311, .int 0, .ref 313, .ref 314, .ref 315, .int 0, .ref 317, .null, .int 0, .null, .null, .null, .null, .int 0])] _ _ _ _ _ _ _ _
  refine g_aload_n hc (k0 := 0) (x := 300) rfl dX7_init_83 ?_
  refine g_bipush hc (v := 20) (by decide) dX7_init_84 ?_
  refine g_newa hc hA 318 20 h0e rfl (by decide +kernel) (fun _ => rfl) (by decide) (by decide +kernel) (Nat.le_of_ble_eq_true rfl) (Nat.le_of_ble_eq_true rfl) (Nat.le_of_ble_eq_true rfl) dX7_init_86 (fun ad h0e => ?_)
  refine g_putF hc hin qF_RX7_40 qG_6_18 (Nat.le_of_ble_eq_true rfl) (fun _ => rfl) (fun _ => rfl) dX7_init_88 ?_
  show gw _ _ _ _ _ _ _ _ _ _ _ _ _ _ _ _ [(300, 6, [.int 0, .int 0, .ref 302, .ref 303, .int 0, .int 0, .int 0, .ref 307, .ref 308, .ref 309, .int 0, .ref 311, .int 0, .ref 313, .ref 314, .ref 315, .int 0, .ref 317, .ref 318, .int 0, .null, .null, .null, .null, .int 0])] _ _ _ _ _ _ _ _
  refine g_aload_n hc (k0 := 0) (x := 300) rfl dX7_init_91 ?_
  refine g_iconst hc (v := 4) (by decide) dX7_init_92 ?_
  refine g_newa hc hA 320 4 h0e rfl (by decide +kernel) (fun _ => rfl) (by decide) (by decide +kernel) (Nat.le_of_ble_eq_true rfl) (Nat.le_of_ble_eq_true rfl) (Nat.le_of_ble_eq_true rfl) dX7_init_93 (fun ad h0e => ?_)
  refine g_putF hc hin qF_RX7_43 qG_6_20 (Nat.le_of_ble_eq_true rfl) (fun _ => rfl) (fun _ => rfl) dX7_init_95 ?_
  show gw _ _ _ _ _ _ _ _ _ _ _ _ _ _ _ _ [(300, 6, [.int 0, .int 0, .ref 302, .ref 303, .int 0, .int 0, .int 0, .ref 307, .ref 308, .ref 309, .int 0, .ref 311, .int 0, .ref 313, .ref 314, .ref 315, .int 0, .ref 317, .ref 318, .int 0, .ref 320, .null, .null, .null, .int 0])] _ _ _ _ _ _ _ _
  refine g_aload_n hc (k0 := 0) (x := 300) rfl dX7_init_98 ?_
  refine g_iconst hc (v := 4) (by decide) dX7_init_99 ?_
  refine g_newa hc hA 321 4 h0e rfl (by decide +kernel) (fun _ => rfl) (by decide) (by decide +kernel) (Nat.le_of_ble_eq_true rfl) (Nat.le_of_ble_eq_true rfl) (Nat.le_of_ble_eq_true rfl) dX7_init_100 (fun ad h0e => ?_)
  refine g_putF hc hin qF_RX7_46 qG_6_21 (Nat.le_of_ble_eq_true rfl) (fun _ => rfl) (fun _ => rfl) dX7_init_102 ?_
  show gw _ _ _ _ _ _ _ _ _ _ _ _ _ _ _ _ [(300, 6, [.int 0, .int 0, .ref 302, .ref 303, .int 0, .int 0, .int 0, .ref 307, .ref 308, .ref 309, .int 0, .ref 311, .int 0, .ref 313, .ref 314, .ref 315, .int 0, .ref 317, .ref 318, .int 0, .ref 320, .ref 321, .null, .null, .int 0])] _ _ _ _ _ _ _ _
  refine g_aload_n hc (k0 := 0) (x := 300) rfl dX7_init_105 ?_
  refine g_sipush hc (v := 240) (by decide) dX7_init_106 ?_
  refine g_newa hc hA 322 240 h0e rfl (by decide +kernel) (fun _ => rfl) (by decide) (by decide +kernel) (Nat.le_of_ble_eq_true rfl) (Nat.le_of_ble_eq_true rfl) (Nat.le_of_ble_eq_true rfl) dX7_init_109 (fun ad h0e => ?_)
  refine g_putF hc hin qF_RX7_49 qG_6_22 (Nat.le_of_ble_eq_true rfl) (fun _ => rfl) (fun _ => rfl) dX7_init_111 ?_
  show gw _ _ _ _ _ _ _ _ _ _ _ _ _ _ _ _ [(300, 6, [.int 0, .int 0, .ref 302, .ref 303, .int 0, .int 0, .int 0, .ref 307, .ref 308, .ref 309, .int 0, .ref 311, .int 0, .ref 313, .ref 314, .ref 315, .int 0, .ref 317, .ref 318, .int 0, .ref 320, .ref 321, .ref 322, .null, .int 0])] _ _ _ _ _ _ _ _
  refine g_aload_n hc (k0 := 0) (x := 300) rfl dX7_init_114 ?_
  refine g_bipush hc (v := 60) (by decide) dX7_init_115 ?_
  refine g_newa hc hA 323 60 h0e rfl (by decide +kernel) (fun _ => rfl) (by decide) (by decide +kernel) (Nat.le_of_ble_eq_true rfl) (Nat.le_of_ble_eq_true rfl) (Nat.le_of_ble_eq_true rfl) dX7_init_117 (fun ad h0e => ?_)
  refine g_putF hc hin qF_RX7_52 qG_6_23 (Nat.le_of_ble_eq_true rfl) (fun _ => rfl) (fun _ => rfl) dX7_init_119 ?_
  show gw _ _ _ _ _ _ _ _ _ _ _ _ _ _ _ _ [(300, 6, [.int 0, .int 0, .ref 302, .ref 303, .int 0, .int 0, .int 0, .ref 307, .ref 308, .ref 309, .int 0, .ref 311, .int 0, .ref 313, .ref 314, .ref 315, .int 0, .ref 317, .ref 318, .int 0, .ref 320, .ref 321, .ref 322, .ref 323, .int 0])] _ _ _ _ _ _ _ _
  refine g_widen 15 4102 (Nat.le_of_ble_eq_true rfl) (Nat.le_of_ble_eq_true rfl) ?_
  refine g_iconst hc (v := nI 0) (by decide) dX7_init_122 ?_
  refine g_istore_n hc (Nat.le_of_ble_eq_true rfl) rfl dX7_init_123 ?_
  have k2 : gw mX7_init p l e (rmi 1 15 4102) s m #[.ref h0] below meth c D cI cQ A (MQ below (ipst D cI cQ 300 h0 tX7_i A) #[.ref h0] s 15 4102 A) [(300, 6, vX7_i)] ad uX7_i 15 4102 164 [(0, .ref 300), (1, .int (nI 4))] [] (fil (fil zer 311 (fun _ => -9) 6) 320 (fun _ => -1) 4) :=
    g_vreti (c0 := 300) (ci := 6) (fl := [none, none, some 302, some 303, none, none, none, some 307, some 308, some 309, none, some 311, none, some 313, some 314, some 315, none, some 317, some 318, none, some 320, some 321, some 322, some 323, none]) hc rfl h0e rfl (rq_all [(311, 6), (320, 4)] (fun b j hb => by
      have hb2 : b ≠ 311 ∧ b ≠ 320 := by simpa using hb
      rw [fil_out (Or.inl hb2.2), fil_out (Or.inl hb2.1)]
      rfl) (fun b n hb j hj => by
      have hb2 : (b = 311 ∧ n = 6) ∨ (b = 320 ∧ n = 4) := by simpa using hb
      rcases hb2 with ⟨rfl, rfl⟩ | ⟨rfl, rfl⟩
      · rw [fil_out (Or.inl (by decide)), fil_in hj]; rfl
      · rw [fil_in hj]; rfl) (by decide +kernel)) dX7_init_164
  have k1 := x7_l2 hc k2 4 0 rfl
  rw [fil_0] at k1
  have k3 : gw mX7_init p l e (rmi 1 15 4102) s m #[.ref h0] below meth c D cI cQ A (MQ below (ipst D cI cQ 300 h0 tX7_i A) #[.ref h0] s 15 4102 A) [(300, 6, vX7_i)] ad uX7_i 15 4102 144 [(0, .ref 300), (1, .int (nI 6))] [] (fil zer 311 (fun _ => -9) 6) := by
    refine g_iconst hc (v := nI 0) (by decide) dX7_init_144 ?_
    refine g_istore_n hc (Nat.le_of_ble_eq_true rfl) rfl dX7_init_145 ?_
    exact k1
  have k4 := x7_l1 hc k3 6 0 rfl
  rw [fil_0] at k4
  exact k4
