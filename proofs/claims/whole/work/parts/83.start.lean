/-! the law from its entry -/
theorem wj_78 : Cond.classLink RL 7 RX6 ∈ gtb := gm (List.mem_of_getElem? (i := 78) (by decide +kernel)) rfl
theorem wj_79 : Cond.instantiable RX6 9 ∈ gtb := gm (List.mem_of_getElem? (i := 79) (by decide +kernel)) rfl
theorem wj_67 : Cond.initialized RX6 ∈ gtb := gm (List.mem_of_getElem? (i := 67) (by decide +kernel)) rfl
theorem df_5 : ∀ j, j < 9 → defaultValue (tyX6 j) = vp_V [.null, .null, .null, .null, .null, .null, .null, .int 0, .int 0] j := fun j hj => by
  rcases (show j = 0 ∨ j = 1 ∨ j = 2 ∨ j = 3 ∨ j = 4 ∨ j = 5 ∨ j = 6 ∨ j = 7 ∨ j = 8 by omega) with rfl | rfl | rfl | rfl | rfl | rfl | rfl | rfl | rfl <;> rfl
theorem wj_763 : Cond.classLink RL 10 RX7 ∈ gtb := gm (List.mem_of_getElem? (i := 763) (by decide +kernel)) rfl
theorem wj_764 : Cond.instantiable RX7 25 ∈ gtb := gm (List.mem_of_getElem? (i := 764) (by decide +kernel)) rfl
theorem wj_74 : Cond.initialized RX7 ∈ gtb := gm (List.mem_of_getElem? (i := 74) (by decide +kernel)) rfl
theorem df_6 : ∀ j, j < 25 → defaultValue (tyX7 j) = vp_V [.int 0, .int 0, .null, .null, .int 0, .int 0, .int 0, .null, .null, .null, .int 0, .null, .int 0, .null, .null, .null, .int 0, .null, .null, .int 0, .null, .null, .null, .null, .int 0] j := fun j hj => by
  rcases (show j = 0 ∨ j = 1 ∨ j = 2 ∨ j = 3 ∨ j = 4 ∨ j = 5 ∨ j = 6 ∨ j = 7 ∨ j = 8 ∨ j = 9 ∨ j = 10 ∨ j = 11 ∨ j = 12 ∨ j = 13 ∨ j = 14 ∨ j = 15 ∨ j = 16 ∨ j = 17 ∨ j = 18 ∨ j = 19 ∨ j = 20 ∨ j = 21 ∨ j = 22 ∨ j = 23 ∨ j = 24 by omega) with rfl | rfl | rfl | rfl | rfl | rfl | rfl | rfl | rfl | rfl | rfl | rfl | rfl | rfl | rfl | rfl | rfl | rfl | rfl | rfl | rfl | rfl | rfl | rfl | rfl <;> rfl
theorem wj_80 : Cond.methodLink RL 9 yX6_init ∈ gtb := gm (List.mem_of_getElem? (i := 80) (by decide +kernel)) rfl
theorem wj_81 : Cond.instanceMethod yX6_init ∈ gtb := gm (List.mem_of_getElem? (i := 81) (by decide +kernel)) rfl
theorem wj_82 : Cond.code yX6_init cX6_init 1 none ∈ gtb := gm (List.mem_of_getElem? (i := 82) (by decide +kernel)) rfl
theorem qI_RL_9 : cIt RL 9 mX6_init none := ⟨wj_80, wj_81, wj_67, wj_82, rfl, rfl, ⟨by decide +kernel, by decide +kernel, by decide +kernel⟩⟩
theorem wj_765 : Cond.methodLink RL 12 yX7_init ∈ gtb := gm (List.mem_of_getElem? (i := 765) (by decide +kernel)) rfl
theorem wj_766 : Cond.instanceMethod yX7_init ∈ gtb := gm (List.mem_of_getElem? (i := 766) (by decide +kernel)) rfl
theorem wj_767 : Cond.code yX7_init cX7_init 2 none ∈ gtb := gm (List.mem_of_getElem? (i := 767) (by decide +kernel)) rfl
theorem qI_RL_12 : cIt RL 12 mX7_init none := ⟨wj_765, wj_766, wj_74, wj_767, rfl, rfl, ⟨by decide +kernel, by decide +kernel, by decide +kernel⟩⟩
theorem wo_ov : Cond.arrayOver (.array .int) ∈ lw_tbl := List.mem_of_getElem? (i := 93) (by decide +kernel)
theorem Rel_ini : Rel ini ini := by
  refine ⟨⟨0, ⟨by decide, by decide, by decide, fun f hf => absurd hf (Nat.not_lt_zero f)⟩, fun k hk => ⟨Or.inl ⟨rfl, rfl⟩, rfl⟩, ⟨0, by decide, by decide, by decide, fun t _ => rfl, by decide, fun t _ => ?_⟩, ⟨(0, fun _ => 1, fun _ _ => 0, fun _ _ => 0, fun _ _ => 0, 0), ⟨by decide, by decide, fun w hw => absurd hw (Nat.not_lt_zero w)⟩, ⟨by decide, by decide, fun w hw => absurd hw (Nat.not_lt_zero w), fun v _ => Or.inl rfl⟩, ⟨by decide, by decide, fun w hw => absurd hw (Nat.not_lt_zero w), fun v _ => Or.inl rfl⟩, fun w hw => absurd hw (Nat.not_lt_zero w), fun v _ => rfl, Or.inl rfl⟩⟩, rfl, rfl⟩
  have e : ∀ t, ini 22 t = 0 := fun t => by rw [ini_z rfl]
  rw [e, e]
  decide
theorem tS_nd : (kys (([] ++ tX6_i) ++ tX7_i)).Nodup := by decide +kernel
theorem tS_sub : ∀ q, q ∈ tL → q ∈ ([] ++ tX6_i) ++ tX7_i := fun q hq => by
  have h : tL.all (fun q => (([] ++ tX6_i) ++ tX7_i).any (fun r => decide (q = r))) = true := by decide +kernel
  obtain ⟨r, hr, e⟩ := List.any_eq_true.mp (List.all_eq_true.mp h q hq)
  rw [of_decide_eq_true e]
  exact hr
theorem law_go {p : Program} {l : Launch} {e : Env} {s : State} {m : MethodId} {below : List Frame} {meth : Method} {c : Code} {D : va_G} {cI cQ : ClassId} {ad : Nat → Nat} {b L : Nat} {xs : Nat → Int32} (hc : cxt mL p s m #[Value.ref b] meth c D cI cQ) (ho : ovr s) (hX : va_X b L xs s s.heap) (hbl : b < s.heap.size) (hL : L ≤ 3072) (h0e : ad 400 = b) : gw mL p l e room_1 s m #[Value.ref b] below meth c D cI cQ (fun q : Nat => s.heap.size ≤ q) (lw_Z below #[Value.ref b] s) [] ad [] 0 0 0 [(0, .ref 400)] [] ini := by
  have hA : ∀ q : Nat, s.heap.size ≤ q → (fun q : Nat => s.heap.size ≤ q) q := fun _ h => h
  refine g_new hc hA 0 5 tyX6 [.null, .null, .null, .null, .null, .null, .null, .int 0, .int 0] rfl lay_5 tyX6_ok df_5 (fun _ => rfl) wj_78 wj_79 wj_67 h0e rfl (by decide +kernel) (Nat.le_of_ble_eq_true rfl) (Nat.le_of_ble_eq_true rfl) dL_law_0 (fun ad h0e => ?_)
  refine g_dup hc rfl dL_law_3 ?_
  refine g_callI hc ho hA (d := 2) (mc1 := 113) (ms1 := 3939) (t1 := tX6_i) qI_RL_9 kX6_init (fun _ => rfl) (Nat.le_of_ble_eq_true rfl) (Nat.le_of_ble_eq_true rfl) (Nat.le_of_ble_eq_true rfl) (Nat.le_of_ble_eq_true rfl) h0e (by decide +kernel) (by decide +kernel) (by decide +kernel) (Nat.le_of_ble_eq_true rfl) dL_law_4 (fun ad h0e => ?_)
  refine g_astore_n hc (Nat.le_of_ble_eq_true rfl) rfl dL_law_7 ?_
  refine g_new hc hA 300 6 tyX7 [.int 0, .int 0, .null, .null, .int 0, .int 0, .int 0, .null, .null, .null, .int 0, .null, .int 0, .null, .null, .null, .int 0, .null, .null, .int 0, .null, .null, .null, .null, .int 0] rfl lay_6 tyX7_ok df_6 (fun _ => rfl) wj_763 wj_764 wj_74 h0e rfl (by decide +kernel) (Nat.le_of_ble_eq_true rfl) (Nat.le_of_ble_eq_true rfl) dL_law_8 (fun ad h0e => ?_)
  refine g_dup hc rfl dL_law_11 ?_
  refine g_callI hc ho hA (d := 1) (mc1 := 15) (ms1 := 4102) (t1 := tX7_i) qI_RL_12 kX7_init (fun _ => rfl) (Nat.le_of_ble_eq_true rfl) (Nat.le_of_ble_eq_true rfl) (Nat.le_of_ble_eq_true rfl) (Nat.le_of_ble_eq_true rfl) h0e (by decide +kernel) (by decide +kernel) (by decide +kernel) (Nat.le_of_ble_eq_true rfl) dL_law_12 (fun ad h0e => ?_)
  refine g_astore_n hc (Nat.le_of_ble_eq_true rfl) rfl dL_law_15 ?_
  refine g_iconst hc (v := nI 0) (by decide) dL_law_16 ?_
  refine g_istore_n hc (Nat.le_of_ble_eq_true rfl) rfl dL_law_17 ?_
  refine g_widen 600000 7302250 (Nat.le_of_ble_eq_true rfl) (Nat.le_of_ble_eq_true rfl) ?_
  refine gw_tb (tb2 := tL) tS_nd tL_nd tS_sub ?_
  exact law_loop ⟨hc, hX, hbl, Nat.not_le.mpr hbl, h0e, hA, hL⟩ (fun _ h => h) (L + 7) 0 ini (by omega) (by omega) Rel_ini
theorem isNst_on {w : Cond} (h : isNst w = true) : w.onTables = true := by
  cases w <;> first | rfl | (exact absurd h (by simp [isNst]))
theorem whole_start {p : Program} {e : Env} {s : State} {m : MethodId} {below : List Frame} {meth : Method} {c : Code} (l : Launch) (hflags : l.flags = flags0) {b L : Nat} {xs : Nat → Int32} (hL : L ≤ 3072) (C0 : lw_At p s m meth c b L xs) : W p l e room_1 s m #[Value.ref b] below meth c s.heap [] 0 0 (lw_Z below #[Value.ref b] s) (entryFrame m ([Value.ref b] : List Value).toArray 4) := by
  obtain ⟨hx, hb, hr, hml, hown, hts, hX, hbl, hlocks, hgv⟩ := id C0
  have ht2 : ∀ w ∈ gtb, w.before #[Value.ref b] s = true := fun w hw => hts w (List.mem_filter.mp hw).1
  obtain ⟨k0, i0, h0⟩ := u_known (C := RX0) (T := TX0) (N := 16) (n := 16) ht2 lay_0 (ht2 _ wj_108)
  obtain ⟨k1, i1, h1⟩ := u_known (C := RX2) (T := TX2) (N := 3) (n := 3) ht2 lay_1 (ht2 _ wj_173)
  obtain ⟨k2, i2, h2⟩ := u_known (C := RX3) (T := TX3) (N := 3) (n := 3) ht2 lay_2 (ht2 _ wj_191)
  obtain ⟨k3, i3, h3⟩ := u_known (C := RX4) (T := TX4) (N := 3) (n := 3) ht2 lay_3 (ht2 _ wj_87)
  obtain ⟨k4, i4, h4⟩ := u_known (C := RX5) (T := TX5) (N := 8) (n := 8) ht2 lay_4 (ht2 _ wj_210)
  obtain ⟨k5, i5, h5⟩ := u_known (C := RX6) (T := TX6) (N := 9) (n := 9) ht2 lay_5 (ht2 _ wj_79)
  obtain ⟨k6, i6, h6⟩ := u_known (C := RX7) (T := TX7) (N := 25) (n := 25) ht2 lay_6 (ht2 _ wj_764)
  have hov := hts _ wo_ov
  obtain ⟨cI, kI, compI, a1, a2, a3⟩ := Cond.arrayClass_spec (ht2 _ wo_arr)
  obtain ⟨compQ, cQ, kQ, -, -, b2, b3, b1⟩ := arrayOverA_spec hov
  obtain ⟨D, hD⟩ : ∃ D : va_G, ∀ (k : Nat) (q : vw_C), vwCl[k]? = some q → u_Kn s q.1 q.2.1 q.2.2 (D.1 k) (D.2 k) := by
    refine ⟨(fun k => match k with | 0 => k0 | 1 => k1 | 2 => k2 | 3 => k3 | 4 => k4 | 5 => k5 | _ => k6, fun k => match k with | 0 => i0 | 1 => i1 | 2 => i2 | 3 => i3 | 4 => i4 | 5 => i5 | _ => i6), ?_⟩
    intro k q hq
    match k, hq with
    | 0, hq => cases hq; exact h0
    | 1, hq => cases hq; exact h1
    | 2, hq => cases hq; exact h2
    | 3, hq => cases hq; exact h3
    | 4, hq => cases hq; exact h4
    | 5, hq => cases hq; exact h5
    | 6, hq => cases hq; exact h6
    | k + 7, hq => simp [vwCl] at hq
  have hK : KK D cI cQ s := by
    refine ⟨⟨hD, fun k q hq => ?_⟩, fun w hw hn => va_Nw.of (isNst_on hn) (hts w hw)⟩
    match k, hq with
    | 0, hq => cases hq; exact ⟨fun n z => ⟨fun k h => (by cases h), kI, a2, compI, a3⟩, a1⟩
    | 1, hq => cases hq; exact ⟨fun n z => ⟨fun k h => (by cases h), kQ, b2, compQ, b3⟩, b1⟩
    | k + 2, hq => simp [tys2] at hq
  have hc : cxt mL p s m #[Value.ref b] meth c D cI cQ := ⟨hx, hb, hml, hr, hlocks, hown, ht2, hK⟩
  have hl := lv_entry [Value.ref b] (n := 4) (Nat.le_of_ble_eq_true rfl)
  rw [lg_entry_eq]
  exact law_go (l := l) (e := e) (below := below) (ad := fun _ => b) hc (over_moved (Vm.Alike.refl s.vm) hov) hX hbl hL rfl s.heap [] _ (fun k q h => by simp [rawW, wld] at h) ⟨fun i j p q h => by simp [rawW, wld] at h, fun k q h => by simp [rawW, wld] at h⟩ va_S.rf hl
