theorem l_J7_fill_53178_5 {d : Nat} {Q : Option Value → Hp → Prop} {k20 : Hp → Option (Unit × Hp)} (hk20 : ∀ (s2 : Hp), ok jV (k20 s2) Q → pw tC d mJ7_fill_53178 20 [] [] s2 Q) : ∀ (n : Nat) (v0 : Nat) (v1 : Int32) (v2 : Int32) (v3 : Int32) (sg : Hp), ok jV (L_J7_fill_53178_5 k20 n v0 v1 v2 v3 sg) Q → pw tC d mJ7_fill_53178 5 [(0, .ref v0), (1, .int v1), (2, .int v2), (3, .int v3)] [] sg Q := by
  intro n
  induction n with
  | zero =>
    intro v0 v1 v2 v3 sg hF
    obtain ⟨_, _, h9, _⟩ := hF
    cases h9
  | succ n ih =>
    intro v0 v1 v2 v3 sg hF
    refine p_iload_n rfl dJ7_fill_53178_5 ?_
    refine p_iload_n rfl dJ7_fill_53178_6 ?_
    refine p_icmp_ge (tgt := 20) dJ7_fill_53178_7 (by decide) (fun hc => ?_) (fun hc => ?_)
    · have hF := ok_t hc hF
      exact p_lv [] rfl (hk20 _ hF)
    · have hF := ok_f hc hF
      refine p_aload_n rfl dJ7_fill_53178_10 ?_
      refine p_iload_n rfl dJ7_fill_53178_11 ?_
      refine p_iload_n rfl dJ7_fill_53178_12 ?_
      obtain ⟨hg, hF⟩ := ok_g hF
      refine p_iast (isA_in hg) (inb_in hg) dJ7_fill_53178_13 ?_
      refine p_iinc (w := 1) (by decide) rfl (Nat.le_of_ble_eq_true rfl) rfl dJ7_fill_53178_14 ?_
      refine p_goto (tgt := 5) dJ7_fill_53178_17 (by decide) ?_
      exact p_lv [0, 1, 2, 3] rfl (ih _ _ _ _ _ hF)
theorem tJ7_fill_53178 {d : Nat} {Q : Option Value → Hp → Prop} {a1 : Nat} {a2 : Int32} {sg : Hp} (hF : ok jV (fJ7_fill_53178 a1 a2 sg) Q) : pw tC d mJ7_fill_53178 0 (lv_args 0 [.ref a1, .int a2]) [] sg Q := by
  unfold fJ7_fill_53178 at hF
  show pw _ _ _ _ [(0, .ref a1), (1, .int a2)] [] _ _
  refine p_iconst (v := 0) (by decide) dJ7_fill_53178_0 ?_
  refine p_istore_n (Nat.le_of_ble_eq_true rfl) rfl dJ7_fill_53178_1 ?_
  refine p_aload_n rfl dJ7_fill_53178_2 ?_
  obtain ⟨hg, hF⟩ := ok_g hF
  refine p_alen (isA_at hg) dJ7_fill_53178_3 ?_
  refine p_istore_n (Nat.le_of_ble_eq_true rfl) rfl dJ7_fill_53178_4 ?_
  refine p_lv [0, 1, 2, 3] rfl (l_J7_fill_53178_5 ?_ 200 _ _ _ _ _ hF)
  intro s2 hF
  exact p_vret rfl dJ7_fill_53178_20 (ok_r (j := jV) hF)
theorem tX0_serveNothing {d : Nat} {Q : Option Value → Hp → Prop} {a1 : Int32} {sg : Hp} (hF : ok jV (fX0_serveNothing a1 sg) Q) : pw tC d mX0_serveNothing 0 (lv_args 0 [.ref 2, .int a1]) [] sg Q := by
  unfold fX0_serveNothing at hF
  show pw _ _ _ _ [(0, .ref 2), (1, .int a1)] [] _ _
  refine p_aload_n rfl dX0_serveNothing_0 ?_
  refine p_getR (c1 := 10) qF_RX0_9 rfl rfl dX0_serveNothing_1 ?_
  refine p_iload_n rfl dX0_serveNothing_4 ?_
  refine p_bipush (v := -9) (by decide) dX0_serveNothing_5 ?_
  obtain ⟨hg, hF⟩ := ok_g hF
  refine p_iast rfl (inb_in hg) dX0_serveNothing_7 ?_
  refine p_aload_n rfl dX0_serveNothing_8 ?_
  refine p_iconst (v := 0) (by decide) dX0_serveNothing_9 ?_
  obtain ⟨hg, hF⟩ := ok_g hF
  refine p_put qF_RX0_57 qP_0_14 rfl rfl (b01_n hg).1 (b01_n hg).2 dX0_serveNothing_10 ?_
  exact p_vret rfl dX0_serveNothing_13 (ok_r (j := jV) hF)
theorem tX1_fillSame {d : Nat} (hd : 1 ≤ d) {Q : Option Value → Hp → Prop} {a1 : Nat} {a2 : Nat} {sg : Hp} (hF : ok jV (fX1_fillSame a1 a2 sg) Q) : pw tC d mX1_fillSame 0 (lv_args 0 [.ref a1, .ref a2]) [] sg Q := by
  unfold fX1_fillSame at hF
  obtain ⟨d, rfl⟩ : ∃ e, d = e + 1 := ⟨d - 1, by omega⟩
  show pw _ _ _ _ [(0, .ref a1), (1, .ref a2)] [] _ _
  refine p_aload_n rfl dX1_fillSame_0 ?_
  refine p_iconst (v := 0) (by decide) dX1_fillSame_1 ?_
  refine p_aload_n rfl dX1_fillSame_2 ?_
  refine p_iconst (v := 0) (by decide) dX1_fillSame_3 ?_
  refine p_bipush (v := 41) (by decide) dX1_fillSame_4 ?_
  obtain ⟨hg, hF⟩ := ok_g hF
  refine p_copy wd_382 wd_300 wd_299 wd_75 (Nat.le_of_ble_eq_true rfl) hg dX1_fillSame_6 ?_
  exact p_vret rfl dX1_fillSame_9 (ok_r (j := jV) hF)
theorem tX0_serveBy {d : Nat} (hd : 2 ≤ d) {Q : Option Value → Hp → Prop} {a1 : Int32} {a2 : Int32} {a3 : Nat} {sg : Hp} (hF : ok jV (fX0_serveBy a1 a2 a3 sg) Q) : pw tC d mX0_serveBy 0 (lv_args 0 [.ref 2, .int a1, .int a2, .ref a3]) [] sg Q := by
  unfold fX0_serveBy at hF
  obtain ⟨d, rfl⟩ : ∃ e, d = e + 1 := ⟨d - 1, by omega⟩
  have hd : 1 ≤ d := by omega
  show pw _ _ _ _ [(0, .ref 2), (1, .int a1), (2, .int a2), (3, .ref a3)] [] _ _
  refine p_aload_n rfl dX0_serveBy_0 ?_
  refine p_getR (c1 := 10) qF_RX0_9 rfl rfl dX0_serveBy_1 ?_
  refine p_iload_n rfl dX0_serveBy_4 ?_
  refine p_iload_n rfl dX0_serveBy_5 ?_
  obtain ⟨hg, hF⟩ := ok_g hF
  refine p_iast rfl (inb_in hg) dX0_serveBy_6 ?_
  refine p_aload_n rfl dX0_serveBy_7 ?_
  refine p_aload_n rfl dX0_serveBy_8 ?_
  refine p_getR (c1 := 11) qF_RX0_17 rfl rfl dX0_serveBy_9 ?_
  refine p_iload_n rfl dX0_serveBy_12 ?_
  obtain ⟨hg, hF⟩ := ok_g hF
  refine p_aald rfl (inb_in hg) dX0_serveBy_13 ?_
  refine p_callS (av := [.ref _, .ref _]) qS_RX0_70 rfl (Nat.le_of_ble_eq_true rfl) (Nat.le_of_ble_eq_true rfl) dX0_serveBy_14 (tX1_fillSame (by omega) (ok_b hF)) (fun r0 s2 hF => ?_)
  obtain ⟨r1, rfl, hF⟩ := hF
  refine p_aload_n rfl dX0_serveBy_17 ?_
  refine p_iconst (v := 0) (by decide) dX0_serveBy_18 ?_
  obtain ⟨hg, hF⟩ := ok_g hF
  refine p_put qF_RX0_57 qP_0_14 rfl rfl (b01_n hg).1 (b01_n hg).2 dX0_serveBy_19 ?_
  exact p_vret rfl dX0_serveBy_22 (ok_r (j := jV) hF)
theorem tX0_ruleBy {d : Nat} {Q : Option Value → Hp → Prop} {a1 : Int32} {sg : Hp} (hF : ok jV (fX0_ruleBy a1 sg) Q) : pw tC d mX0_ruleBy 0 (lv_args 0 [.ref 2, .int a1]) [] sg Q := by
  unfold fX0_ruleBy at hF
  show pw _ _ _ _ [(0, .ref 2), (1, .int a1)] [] _ _
  refine p_aload_n rfl dX0_ruleBy_0 ?_
  refine p_iload_n rfl dX0_ruleBy_1 ?_
  refine p_put qF_RX0_33 qP_0_6 rfl rfl rfl rfl dX0_ruleBy_2 ?_
  refine p_aload_n rfl dX0_ruleBy_5 ?_
  refine p_iconst (v := 0) (by decide) dX0_ruleBy_6 ?_
  obtain ⟨hg, hF⟩ := ok_g hF
  refine p_put qF_RX0_57 qP_0_14 rfl rfl (b01_n hg).1 (b01_n hg).2 dX0_ruleBy_7 ?_
  exact p_vret rfl dX0_ruleBy_10 (ok_r (j := jV) hF)
theorem b_X0_isFull_13 {d : Nat} {Q : Option Value → Hp → Prop}  (vk0 : Int32) (sg : Hp) (hF : ok jI (B_X0_isFull_13  vk0 sg) Q) : pw tC d mX0_isFull 13 [] [.int vk0] sg Q := by
  unfold B_X0_isFull_13 at hF
  obtain ⟨hg, hF⟩ := ok_g hF
  exact p_zret rfl (b01_n hg).1 dX0_isFull_13 (ok_r (j := jI) hF)
theorem tX0_isFull {d : Nat} {Q : Option Value → Hp → Prop}  {sg : Hp} (hF : ok jI (fX0_isFull  sg) Q) : pw tC d mX0_isFull 0 (lv_args 0 [.ref 2]) [] sg Q := by
  unfold fX0_isFull at hF
  show pw _ _ _ _ [(0, .ref 2)] [] _ _
  refine p_aload_n rfl dX0_isFull_0 ?_
  refine p_getI qF_RX0_29 rfl rfl dX0_isFull_1 ?_
  refine p_iconst (v := 5) (by decide) dX0_isFull_4 ?_
  refine p_icmp_lt (tgt := 12) dX0_isFull_5 (by decide) (fun hc => ?_) (fun hc => ?_)
  · have hF := ok_t hc hF
    refine p_iconst (v := 0) (by decide) dX0_isFull_12 ?_
    exact p_lv [] rfl (b_X0_isFull_13  _ _ hF)
  · have hF := ok_f hc hF
    refine p_iconst (v := 1) (by decide) dX0_isFull_8 ?_
    refine p_goto (tgt := 13) dX0_isFull_9 (by decide) ?_
    exact p_lv [] rfl (b_X0_isFull_13  _ _ hF)
theorem tX0_comesAt {d : Nat} {Q : Option Value → Hp → Prop} {a1 : Int32} {a2 : Int32} {sg : Hp} (hF : ok jA (fX0_comesAt a1 a2 sg) Q) : pw tC d mX0_comesAt 0 (lv_args 0 [.ref 2, .int a1, .int a2]) [] sg Q := by
  unfold fX0_comesAt at hF
  show pw _ _ _ _ [(0, .ref 2), (1, .int a1), (2, .int a2)] [] _ _
  refine p_aload_n rfl dX0_comesAt_0 ?_
  refine p_getR (c1 := 15) qF_RX0_36 rfl rfl dX0_comesAt_1 ?_
  refine p_iload_n rfl dX0_comesAt_4 ?_
  refine p_iconst (v := 5) (by decide) dX0_comesAt_5 ?_
  refine p_imul dX0_comesAt_6 ?_
  refine p_iload_n rfl dX0_comesAt_7 ?_
  refine p_iadd dX0_comesAt_8 ?_
  obtain ⟨hg, hF⟩ := ok_g hF
  refine p_aald rfl (inb_in hg) dX0_comesAt_9 ?_
  exact p_aret rfl dX0_comesAt_10 (ok_r (j := jA) hF)
theorem tX0_addFlow {d : Nat} (hd : 2 ≤ d) {Q : Option Value → Hp → Prop} {a1 : Int32} {a2 : Nat} {a3 : Nat} {a4 : Int32} {sg : Hp} (hF : ok jI (fX0_addFlow a1 a2 a3 a4 sg) Q) : pw tC d mX0_addFlow 0 (lv_args 0 [.ref 2, .int a1, .ref a2, .ref a3, .int a4]) [] sg Q := by
  unfold fX0_addFlow at hF
  obtain ⟨d, rfl⟩ : ∃ e, d = e + 1 := ⟨d - 1, by omega⟩
  have hd : 1 ≤ d := by omega
  show pw _ _ _ _ [(0, .ref 2), (1, .int a1), (2, .ref a2), (3, .ref a3), (4, .int a4)] [] _ _
  refine p_aload_n rfl dX0_addFlow_0 ?_
  refine p_getI qF_RX0_29 rfl rfl dX0_addFlow_1 ?_
  refine p_istore (Nat.le_of_ble_eq_true rfl) rfl dX0_addFlow_4 ?_
  refine p_aload_n rfl dX0_addFlow_6 ?_
  refine p_getR (c1 := 12) qF_RX0_20 rfl rfl dX0_addFlow_7 ?_
  refine p_iload rfl dX0_addFlow_10 ?_
  refine p_iload_n rfl dX0_addFlow_12 ?_
  obtain ⟨hg, hF⟩ := ok_g hF
  refine p_iast rfl (inb_in hg) dX0_addFlow_13 ?_
  refine p_aload_n rfl dX0_addFlow_14 ?_
  refine p_getR (c1 := 13) qF_RX0_23 rfl rfl dX0_addFlow_15 ?_
  refine p_iload rfl dX0_addFlow_18 ?_
  refine p_iload rfl dX0_addFlow_20 ?_
  obtain ⟨hg, hF⟩ := ok_g hF
  refine p_iast rfl (inb_in hg) dX0_addFlow_22 ?_
  refine p_aload_n rfl dX0_addFlow_23 ?_
  refine p_iconst (v := 0) (by decide) dX0_addFlow_24 ?_
  refine p_aload_n rfl dX0_addFlow_25 ?_
  refine p_getR (c1 := 14) qF_RX0_26 rfl rfl dX0_addFlow_26 ?_
  refine p_iload rfl dX0_addFlow_29 ?_
  obtain ⟨hg, hF⟩ := ok_g hF
  refine p_aald rfl (inb_in hg) dX0_addFlow_31 ?_
  refine p_iconst (v := 0) (by decide) dX0_addFlow_32 ?_
  refine p_iload rfl dX0_addFlow_33 ?_
  obtain ⟨hg, hF⟩ := ok_g hF
  refine p_copy wd_496 wd_300 wd_299 wd_75 (Nat.le_of_ble_eq_true rfl) hg dX0_addFlow_35 ?_
  refine p_aload_n rfl dX0_addFlow_38 ?_
  refine p_aload_n rfl dX0_addFlow_39 ?_
  refine p_iload rfl dX0_addFlow_40 ?_
  refine p_iconst (v := 0) (by decide) dX0_addFlow_42 ?_
  refine p_callV (c0 := 2) (av := [.int _, .int _]) qV_RX0_82 rfl rfl rfl rfl (Nat.le_of_ble_eq_true rfl) (Nat.le_of_ble_eq_true rfl) dX0_addFlow_43 (tX0_comesAt (ok_b hF)) (fun r0 s2 hF => ?_)
  obtain ⟨r1, rfl, hF⟩ := hF
  refine p_callS (av := [.ref _, .ref _]) qS_RX0_70 rfl (Nat.le_of_ble_eq_true rfl) (Nat.le_of_ble_eq_true rfl) dX0_addFlow_46 (tX1_fillSame (by omega) (ok_b hF)) (fun r0 s4 hF => ?_)
  obtain ⟨r3, rfl, hF⟩ := hF
  refine p_aload_n rfl dX0_addFlow_49 ?_
  refine p_dup rfl dX0_addFlow_50 ?_
  refine p_getI qF_RX0_29 rfl rfl dX0_addFlow_51 ?_
  refine p_iconst (v := 1) (by decide) dX0_addFlow_54 ?_
  refine p_iadd dX0_addFlow_55 ?_
  refine p_put qF_RX0_29 qP_0_5 rfl rfl rfl rfl dX0_addFlow_56 ?_
  refine p_aload_n rfl dX0_addFlow_59 ?_
  refine p_iconst (v := 0) (by decide) dX0_addFlow_60 ?_
  obtain ⟨hg, hF⟩ := ok_g hF
  refine p_put qF_RX0_57 qP_0_14 rfl rfl (b01_n hg).1 (b01_n hg).2 dX0_addFlow_61 ?_
  refine p_iload rfl dX0_addFlow_64 ?_
  exact p_iret rfl dX0_addFlow_66 (ok_r (j := jI) hF)
theorem b_X0_hasFlow_17 {d : Nat} {Q : Option Value → Hp → Prop}  (vk0 : Int32) (sg : Hp) (hF : ok jI (B_X0_hasFlow_17  vk0 sg) Q) : pw tC d mX0_hasFlow 17 [] [.int vk0] sg Q := by
  unfold B_X0_hasFlow_17 at hF
  obtain ⟨hg, hF⟩ := ok_g hF
  exact p_zret rfl (b01_n hg).1 dX0_hasFlow_17 (ok_r (j := jI) hF)
theorem b_X0_hasFlow_16 {d : Nat} {Q : Option Value → Hp → Prop}   (sg : Hp) (hF : ok jI (B_X0_hasFlow_16   sg) Q) : pw tC d mX0_hasFlow 16 [] [] sg Q := by
  unfold B_X0_hasFlow_16 at hF
  refine p_iconst (v := 0) (by decide) dX0_hasFlow_16 ?_
  exact p_lv [] rfl (b_X0_hasFlow_17  _ _ hF)
theorem tX0_hasFlow {d : Nat} {Q : Option Value → Hp → Prop} {a1 : Int32} {sg : Hp} (hF : ok jI (fX0_hasFlow a1 sg) Q) : pw tC d mX0_hasFlow 0 (lv_args 0 [.ref 2, .int a1]) [] sg Q := by
  unfold fX0_hasFlow at hF
  show pw _ _ _ _ [(0, .ref 2), (1, .int a1)] [] _ _
  refine p_iload_n rfl dX0_hasFlow_0 ?_
  refine p_if_lt (tgt := 16) dX0_hasFlow_1 (by decide) (fun hc => ?_) (fun hc => ?_)
  · have hF := ok_t hc hF
    exact p_lv [] rfl (b_X0_hasFlow_16  _ hF)
  · have hF := ok_f hc hF
    refine p_iload_n rfl dX0_hasFlow_4 ?_
    refine p_aload_n rfl dX0_hasFlow_5 ?_
    refine p_getI qF_RX0_29 rfl rfl dX0_hasFlow_6 ?_
    refine p_icmp_ge (tgt := 16) dX0_hasFlow_9 (by decide) (fun hc => ?_) (fun hc => ?_)
    · have hF := ok_t hc hF
      exact p_lv [] rfl (b_X0_hasFlow_16  _ hF)
    · have hF := ok_f hc hF
      refine p_iconst (v := 1) (by decide) dX0_hasFlow_12 ?_
      refine p_goto (tgt := 17) dX0_hasFlow_13 (by decide) ?_
      exact p_lv [] rfl (b_X0_hasFlow_17  _ _ hF)
theorem b_X0_hasPlace_27 {d : Nat} {Q : Option Value → Hp → Prop}  (vk0 : Int32) (sg : Hp) (hF : ok jI (B_X0_hasPlace_27  vk0 sg) Q) : pw tC (d + 1) mX0_hasPlace 27 [] [.int vk0] sg Q := by
  unfold B_X0_hasPlace_27 at hF
  obtain ⟨hg, hF⟩ := ok_g hF
  exact p_zret rfl (b01_n hg).1 dX0_hasPlace_27 (ok_r (j := jI) hF)
theorem b_X0_hasPlace_26 {d : Nat} {Q : Option Value → Hp → Prop}   (sg : Hp) (hF : ok jI (B_X0_hasPlace_26   sg) Q) : pw tC (d + 1) mX0_hasPlace 26 [] [] sg Q := by
  unfold B_X0_hasPlace_26 at hF
  refine p_iconst (v := 0) (by decide) dX0_hasPlace_26 ?_
  exact p_lv [] rfl (b_X0_hasPlace_27  _ _ hF)
theorem tX0_hasPlace {d : Nat} (hd : 1 ≤ d) {Q : Option Value → Hp → Prop} {a1 : Int32} {a2 : Int32} {sg : Hp} (hF : ok jI (fX0_hasPlace a1 a2 sg) Q) : pw tC d mX0_hasPlace 0 (lv_args 0 [.ref 2, .int a1, .int a2]) [] sg Q := by
  unfold fX0_hasPlace at hF
  obtain ⟨d, rfl⟩ : ∃ e, d = e + 1 := ⟨d - 1, by omega⟩
  show pw _ _ _ _ [(0, .ref 2), (1, .int a1), (2, .int a2)] [] _ _
  refine p_aload_n rfl dX0_hasPlace_0 ?_
  refine p_iload_n rfl dX0_hasPlace_1 ?_
  refine p_callV (c0 := 2) (av := [.int _]) qV_RX0_86 rfl rfl rfl rfl (Nat.le_of_ble_eq_true rfl) (Nat.le_of_ble_eq_true rfl) dX0_hasPlace_2 (tX0_hasFlow (ok_b hF)) (fun r0 s2 hF => ?_)
  obtain ⟨r1, rfl, hF⟩ := hF
  refine p_if_eq (tgt := 26) dX0_hasPlace_5 (by decide) (fun hc => ?_) (fun hc => ?_)
  · have hF := ok_t hc hF
    exact p_lv [] rfl (b_X0_hasPlace_26  _ hF)
  · have hF := ok_f hc hF
    refine p_iload_n rfl dX0_hasPlace_8 ?_
    refine p_if_lt (tgt := 26) dX0_hasPlace_9 (by decide) (fun hc => ?_) (fun hc => ?_)
    · have hF := ok_t hc hF
      exact p_lv [] rfl (b_X0_hasPlace_26  _ hF)
    · have hF := ok_f hc hF
      refine p_iload_n rfl dX0_hasPlace_12 ?_
      refine p_aload_n rfl dX0_hasPlace_13 ?_
      refine p_getR (c1 := 13) qF_RX0_23 rfl rfl dX0_hasPlace_14 ?_
      refine p_iload_n rfl dX0_hasPlace_17 ?_
      obtain ⟨hg, hF⟩ := ok_g hF
      refine p_iald rfl (inb_in hg) dX0_hasPlace_18 ?_
      refine p_icmp_ge (tgt := 26) dX0_hasPlace_19 (by decide) (fun hc => ?_) (fun hc => ?_)
      · have hF := ok_t hc hF
        exact p_lv [] rfl (b_X0_hasPlace_26  _ hF)
      · have hF := ok_f hc hF
        refine p_iconst (v := 1) (by decide) dX0_hasPlace_22 ?_
        refine p_goto (tgt := 27) dX0_hasPlace_23 (by decide) ?_
        exact p_lv [] rfl (b_X0_hasPlace_27  _ _ hF)
theorem b_X0_servingNodes_24 {d : Nat} {Q : Option Value → Hp → Prop} {k4 : Int32 → Int32 → Hp → Option (Int32 × Hp)} (hk4 : ∀ (z1 : Int32) (z2 : Int32) (s2 : Hp), ok jI (k4 z1 z2 s2) Q → pw tC d mX0_servingNodes 4 [(0, .ref 2), (1, .int z1), (2, .int z2)] [] s2 Q) (v1 : Int32) (v2 : Int32) (sg : Hp) (hF : ok jI (B_X0_servingNodes_24 k4 v1 v2 sg) Q) : pw tC d mX0_servingNodes 24 [(0, .ref 2), (1, .int v1), (2, .int v2)] [] sg Q := by
  unfold B_X0_servingNodes_24 at hF
  refine p_iinc (w := 1) (by decide) rfl (Nat.le_of_ble_eq_true rfl) rfl dX0_servingNodes_24 ?_
  refine p_goto (tgt := 4) dX0_servingNodes_27 (by decide) ?_
  exact p_lv [0, 1, 2] rfl (hk4 _ _ _ hF)
theorem l_X0_servingNodes_4 {d : Nat} {Q : Option Value → Hp → Prop} {k30 : Int32 → Hp → Option (Int32 × Hp)} (hk30 : ∀ (z1 : Int32) (s2 : Hp), ok jI (k30 z1 s2) Q → pw tC d mX0_servingNodes 30 [(1, .int z1)] [] s2 Q) : ∀ (n : Nat) (v1 : Int32) (v2 : Int32) (sg : Hp), ok jI (L_X0_servingNodes_4 k30 n v1 v2 sg) Q → pw tC d mX0_servingNodes 4 [(0, .ref 2), (1, .int v1), (2, .int v2)] [] sg Q := by
  intro n
  induction n with
  | zero =>
    intro v1 v2 sg hF
    obtain ⟨_, _, h9, _⟩ := hF
    cases h9
  | succ n ih =>
    intro v1 v2 sg hF
    refine p_iload_n rfl dX0_servingNodes_4 ?_
    refine p_bipush (v := 6) (by decide) dX0_servingNodes_5 ?_
    refine p_icmp_ge (tgt := 30) dX0_servingNodes_7 (by decide) (fun hc => ?_) (fun hc => ?_)
    · have hF := ok_t hc hF
      exact p_lv [1] rfl (hk30 _ _ hF)
    · have hF := ok_f hc hF
      refine p_aload_n rfl dX0_servingNodes_10 ?_
      refine p_getR (c1 := 10) qF_RX0_9 rfl rfl dX0_servingNodes_11 ?_
      refine p_iload_n rfl dX0_servingNodes_14 ?_
      obtain ⟨hg, hF⟩ := ok_g hF
      refine p_iald rfl (inb_in hg) dX0_servingNodes_15 ?_
      refine p_bipush (v := -9) (by decide) dX0_servingNodes_16 ?_
      refine p_icmp_eq (tgt := 24) dX0_servingNodes_18 (by decide) (fun hc => ?_) (fun hc => ?_)
      · have hF := ok_t hc hF
        exact p_lv [0, 1, 2] rfl (b_X0_servingNodes_24 ih _ _ _ hF)
      · have hF := ok_f hc hF
        refine p_iinc (w := 1) (by decide) rfl (Nat.le_of_ble_eq_true rfl) rfl dX0_servingNodes_21 ?_
        exact p_lv [0, 1, 2] rfl (b_X0_servingNodes_24 ih _ _ _ hF)
theorem tX0_servingNodes {d : Nat} {Q : Option Value → Hp → Prop}  {sg : Hp} (hF : ok jI (fX0_servingNodes  sg) Q) : pw tC d mX0_servingNodes 0 (lv_args 0 [.ref 2]) [] sg Q := by
  unfold fX0_servingNodes at hF
  show pw _ _ _ _ [(0, .ref 2)] [] _ _
  refine p_iconst (v := 0) (by decide) dX0_servingNodes_0 ?_
  refine p_istore_n (Nat.le_of_ble_eq_true rfl) rfl dX0_servingNodes_1 ?_
  refine p_iconst (v := 0) (by decide) dX0_servingNodes_2 ?_
  refine p_istore_n (Nat.le_of_ble_eq_true rfl) rfl dX0_servingNodes_3 ?_
  refine p_lv [0, 1, 2] rfl (l_X0_servingNodes_4 ?_ 200 _ _ _ hF)
  intro w1_1 s2 hF
  refine p_iload_n rfl dX0_servingNodes_30 ?_
  exact p_iret rfl dX0_servingNodes_31 (ok_r (j := jI) hF)
theorem l_X0_noteAhead_20 {d : Nat} {Q : Option Value → Hp → Prop} {k64 : Int32 → Hp → Option (Unit × Hp)} (hk64 : ∀ (z1 : Int32) (s2 : Hp), ok jV (k64 z1 s2) Q → pw tC (d + 1) mX0_noteAhead 64 [(0, .ref 2), (1, .int z1)] [] s2 Q) : ∀ (n : Nat) (v1 : Int32) (v2 : Int32) (sg : Hp), ok jV (L_X0_noteAhead_20 k64 n v1 v2 sg) Q → pw tC (d + 1) mX0_noteAhead 20 [(0, .ref 2), (1, .int v1), (2, .int v2)] [] sg Q := by
  intro n
  induction n with
  | zero =>
    intro v1 v2 sg hF
    obtain ⟨_, _, h9, _⟩ := hF
    cases h9
  | succ n ih =>
    intro v1 v2 sg hF
    refine p_iload_n rfl dX0_noteAhead_20 ?_
    refine p_aload_n rfl dX0_noteAhead_21 ?_
    refine p_getR (c1 := 13) qF_RX0_23 rfl rfl dX0_noteAhead_22 ?_
    refine p_iload_n rfl dX0_noteAhead_25 ?_
    obtain ⟨hg, hF⟩ := ok_g hF
    refine p_iald rfl (inb_in hg) dX0_noteAhead_26 ?_
    refine p_icmp_ge (tgt := 64) dX0_noteAhead_27 (by decide) (fun hc => ?_) (fun hc => ?_)
    · have hF := ok_t hc hF
      exact p_lv [0, 1] rfl (hk64 _ _ hF)
    · have hF := ok_f hc hF
      refine p_aload_n rfl dX0_noteAhead_30 ?_
      refine p_getR (c1 := 18) qF_RX0_45 rfl rfl dX0_noteAhead_31 ?_
      refine p_aload_n rfl dX0_noteAhead_34 ?_
      refine p_getR (c1 := 14) qF_RX0_26 rfl rfl dX0_noteAhead_35 ?_
      refine p_iload_n rfl dX0_noteAhead_38 ?_
      obtain ⟨hg, hF⟩ := ok_g hF
      refine p_aald rfl (inb_in hg) dX0_noteAhead_39 ?_
      refine p_iload_n rfl dX0_noteAhead_40 ?_
      obtain ⟨hg, hF⟩ := ok_g hF
      refine p_iald (isA_in hg) (inb_in hg) dX0_noteAhead_41 ?_
      refine p_dup2 ⟨rfl, rfl⟩ dX0_noteAhead_42 ?_
      obtain ⟨hg, hF⟩ := ok_g hF
      refine p_iald rfl (inb_in hg) dX0_noteAhead_43 ?_
      refine p_iconst (v := 1) (by decide) dX0_noteAhead_44 ?_
      refine p_aload_n rfl dX0_noteAhead_45 ?_
      refine p_getR (c1 := 14) qF_RX0_26 rfl rfl dX0_noteAhead_46 ?_
      refine p_iload_n rfl dX0_noteAhead_49 ?_
      obtain ⟨hg, hF⟩ := ok_g hF
      refine p_aald rfl (inb_in hg) dX0_noteAhead_50 ?_
      refine p_iload_n rfl dX0_noteAhead_51 ?_
      refine p_iconst (v := 1) (by decide) dX0_noteAhead_52 ?_
      refine p_isub dX0_noteAhead_53 ?_
      obtain ⟨hg, hF⟩ := ok_g hF
      refine p_iald (isA_in hg) (inb_in hg) dX0_noteAhead_54 ?_
      refine p_ishl dX0_noteAhead_55 ?_
      refine p_ior dX0_noteAhead_56 ?_
      obtain ⟨hg, hF⟩ := ok_g hF
      refine p_iast rfl (inb_in hg) dX0_noteAhead_57 ?_
      refine p_iinc (w := 1) (by decide) rfl (Nat.le_of_ble_eq_true rfl) rfl dX0_noteAhead_58 ?_
      refine p_goto (tgt := 20) dX0_noteAhead_61 (by decide) ?_
      exact p_lv [0, 1, 2] rfl (ih _ _ _ hF)
theorem l_X0_noteAhead_10 {d : Nat} {Q : Option Value → Hp → Prop} {k70 : Hp → Option (Unit × Hp)} (hk70 : ∀ (s2 : Hp), ok jV (k70 s2) Q → pw tC (d + 1) mX0_noteAhead 70 [] [] s2 Q) : ∀ (n : Nat) (v1 : Int32) (sg : Hp), ok jV (L_X0_noteAhead_10 k70 n v1 sg) Q → pw tC (d + 1) mX0_noteAhead 10 [(0, .ref 2), (1, .int v1)] [] sg Q := by
  intro n
  induction n with
  | zero =>
    intro v1 sg hF
    obtain ⟨_, _, h9, _⟩ := hF
    cases h9
  | succ n ih =>
    intro v1 sg hF
    refine p_iload_n rfl dX0_noteAhead_10 ?_
    refine p_aload_n rfl dX0_noteAhead_11 ?_
    refine p_getI qF_RX0_29 rfl rfl dX0_noteAhead_12 ?_
    refine p_icmp_ge (tgt := 70) dX0_noteAhead_15 (by decide) (fun hc => ?_) (fun hc => ?_)
    · have hF := ok_t hc hF
      exact p_lv [] rfl (hk70 _ hF)
    · have hF := ok_f hc hF
      refine p_iconst (v := 1) (by decide) dX0_noteAhead_18 ?_
      refine p_istore_n (Nat.le_of_ble_eq_true rfl) rfl dX0_noteAhead_19 ?_
      refine p_lv [0, 1, 2] rfl (l_X0_noteAhead_20 ?_ 200 _ _ _ hF)
      intro w3_1 s4 hF
      refine p_iinc (w := 1) (by decide) rfl (Nat.le_of_ble_eq_true rfl) rfl dX0_noteAhead_64 ?_
      refine p_goto (tgt := 10) dX0_noteAhead_67 (by decide) ?_
      exact p_lv [0, 1] rfl (ih _ _ hF)
theorem tX0_noteAhead {d : Nat} (hd : 1 ≤ d) {Q : Option Value → Hp → Prop}  {sg : Hp} (hF : ok jV (fX0_noteAhead  sg) Q) : pw tC d mX0_noteAhead 0 (lv_args 0 [.ref 2]) [] sg Q := by
  unfold fX0_noteAhead at hF
  obtain ⟨d, rfl⟩ : ∃ e, d = e + 1 := ⟨d - 1, by omega⟩
  show pw _ _ _ _ [(0, .ref 2)] [] _ _
  refine p_aload_n rfl dX0_noteAhead_0 ?_
  refine p_getR (c1 := 18) qF_RX0_45 rfl rfl dX0_noteAhead_1 ?_
  refine p_iconst (v := 0) (by decide) dX0_noteAhead_4 ?_
  refine p_callS (av := [.ref 18, .int _]) qS_RX0_64 rfl (Nat.le_of_ble_eq_true rfl) (Nat.le_of_ble_eq_true rfl) dX0_noteAhead_5 (tJ7_fill_53178 (ok_b hF)) (fun r0 s2 hF => ?_)
  obtain ⟨r1, rfl, hF⟩ := hF
  refine p_iconst (v := 0) (by decide) dX0_noteAhead_8 ?_
  refine p_istore_n (Nat.le_of_ble_eq_true rfl) rfl dX0_noteAhead_9 ?_
  refine p_lv [0, 1] rfl (l_X0_noteAhead_10 ?_ 200 _ _ hF)
  intro s6 hF
  exact p_vret rfl dX0_noteAhead_70 (ok_r (j := jV) hF)
theorem b_X0_orderNodes_80 {d : Nat} (hd : 1 ≤ d) {Q : Option Value → Hp → Prop} {k19 : Int32 → Int32 → Int32 → Int32 → Hp → Option (Int32 × Hp)} (hk19 : ∀ (z1 : Int32) (z2 : Int32) (z3 : Int32) (z4 : Int32) (s2 : Hp), ok jI (k19 z1 z2 z3 z4 s2) Q → pw tC (d + 1) mX0_orderNodes 19 [(0, .ref 2), (1, .int z1), (2, .int z2), (3, .int z3), (4, .int z4)] [] s2 Q) (v1 : Int32) (v2 : Int32) (v3 : Int32) (v4 : Int32) (sg : Hp) (hF : ok jI (B_X0_orderNodes_80 k19 v1 v2 v3 v4 sg) Q) : pw tC (d + 1) mX0_orderNodes 80 [(0, .ref 2), (1, .int v1), (2, .int v2), (3, .int v3), (4, .int v4)] [] sg Q := by
  unfold B_X0_orderNodes_80 at hF
  refine p_iinc (w := 1) (by decide) rfl (Nat.le_of_ble_eq_true rfl) rfl dX0_orderNodes_80 ?_
  refine p_goto (tgt := 19) dX0_orderNodes_83 (by decide) ?_
  exact p_lv [0, 1, 2, 3, 4] rfl (hk19 _ _ _ _ _ hF)
theorem b_X0_orderNodes_41 {d : Nat} (hd : 1 ≤ d) {Q : Option Value → Hp → Prop} {k19 : Int32 → Int32 → Int32 → Int32 → Hp → Option (Int32 × Hp)} (hk19 : ∀ (z1 : Int32) (z2 : Int32) (z3 : Int32) (z4 : Int32) (s2 : Hp), ok jI (k19 z1 z2 z3 z4 s2) Q → pw tC (d + 1) mX0_orderNodes 19 [(0, .ref 2), (1, .int z1), (2, .int z2), (3, .int z3), (4, .int z4)] [] s2 Q) (v1 : Int32) (v2 : Int32) (v3 : Int32) (v4 : Int32) (vk0 : Int32) (sg : Hp) (hF : ok jI (B_X0_orderNodes_41 k19 v1 v2 v3 v4 vk0 sg) Q) : pw tC (d + 1) mX0_orderNodes 41 [(0, .ref 2), (1, .int v1), (2, .int v2), (3, .int v3), (4, .int v4)] [.int vk0] sg Q := by
  unfold B_X0_orderNodes_41 at hF
  refine p_istore (Nat.le_of_ble_eq_true rfl) rfl dX0_orderNodes_41 ?_
  refine p_iload rfl dX0_orderNodes_43 ?_
  refine p_if_ne (tgt := 80) dX0_orderNodes_45 (by decide) (fun hc => ?_) (fun hc => ?_)
  · have hF := ok_f hc hF
    exact p_lv [0, 1, 2, 3, 4] rfl (b_X0_orderNodes_80 hd hk19 _ _ _ _ _ hF)
  · have hF := ok_t hc hF
    refine p_aload_n rfl dX0_orderNodes_48 ?_
    refine p_getR (c1 := 18) qF_RX0_45 rfl rfl dX0_orderNodes_49 ?_
    refine p_iload rfl dX0_orderNodes_52 ?_
    obtain ⟨hg, hF⟩ := ok_g hF
    refine p_iald rfl (inb_in hg) dX0_orderNodes_54 ?_
    refine p_iload_n rfl dX0_orderNodes_55 ?_
    refine p_iconst (v := -1) (by decide) dX0_orderNodes_56 ?_
    refine p_ixor dX0_orderNodes_57 ?_
    refine p_iand dX0_orderNodes_58 ?_
    refine p_if_ne (tgt := 80) dX0_orderNodes_59 (by decide) (fun hc => ?_) (fun hc => ?_)
    · have hF := ok_f hc hF
      exact p_lv [0, 1, 2, 3, 4] rfl (b_X0_orderNodes_80 hd hk19 _ _ _ _ _ hF)
    · have hF := ok_t hc hF
      refine p_aload_n rfl dX0_orderNodes_62 ?_
      refine p_getR (c1 := 19) qF_RX0_48 rfl rfl dX0_orderNodes_63 ?_
      refine p_iload_n rfl dX0_orderNodes_66 ?_
      refine p_iload rfl dX0_orderNodes_67 ?_
      obtain ⟨hg, hF⟩ := ok_g hF
      refine p_iast rfl (inb_in hg) dX0_orderNodes_69 ?_
      refine p_iinc (w := 1) (by decide) rfl (Nat.le_of_ble_eq_true rfl) rfl dX0_orderNodes_70 ?_
      refine p_iload_n rfl dX0_orderNodes_73 ?_
      refine p_iconst (v := 1) (by decide) dX0_orderNodes_74 ?_
      refine p_iload rfl dX0_orderNodes_75 ?_
      refine p_ishl dX0_orderNodes_77 ?_
      refine p_ior dX0_orderNodes_78 ?_
      refine p_istore_n (Nat.le_of_ble_eq_true rfl) rfl dX0_orderNodes_79 ?_
      exact p_lv [0, 1, 2, 3, 4] rfl (b_X0_orderNodes_80 hd hk19 _ _ _ _ _ hF)
theorem l_X0_orderNodes_19 {d : Nat} (hd : 1 ≤ d) {Q : Option Value → Hp → Prop} {k86 : Int32 → Int32 → Int32 → Hp → Option (Int32 × Hp)} (hk86 : ∀ (z1 : Int32) (z2 : Int32) (z3 : Int32) (s2 : Hp), ok jI (k86 z1 z2 z3 s2) Q → pw tC (d + 1) mX0_orderNodes 86 [(0, .ref 2), (1, .int z1), (2, .int z2), (3, .int z3)] [] s2 Q) : ∀ (n : Nat) (v1 : Int32) (v2 : Int32) (v3 : Int32) (v4 : Int32) (sg : Hp), ok jI (L_X0_orderNodes_19 k86 n v1 v2 v3 v4 sg) Q → pw tC (d + 1) mX0_orderNodes 19 [(0, .ref 2), (1, .int v1), (2, .int v2), (3, .int v3), (4, .int v4)] [] sg Q := by
  intro n
  induction n with
  | zero =>
    intro v1 v2 v3 v4 sg hF
    obtain ⟨_, _, h9, _⟩ := hF
    cases h9
  | succ n ih =>
    intro v1 v2 v3 v4 sg hF
    refine p_iload rfl dX0_orderNodes_19 ?_
    refine p_bipush (v := 6) (by decide) dX0_orderNodes_21 ?_
    refine p_icmp_ge (tgt := 86) dX0_orderNodes_23 (by decide) (fun hc => ?_) (fun hc => ?_)
    · have hF := ok_t hc hF
      exact p_lv [0, 1, 2, 3] rfl (hk86 _ _ _ _ hF)
    · have hF := ok_f hc hF
      refine p_iload_n rfl dX0_orderNodes_26 ?_
      refine p_iload rfl dX0_orderNodes_27 ?_
      refine p_ishr dX0_orderNodes_29 ?_
      refine p_iconst (v := 1) (by decide) dX0_orderNodes_30 ?_
      refine p_iand dX0_orderNodes_31 ?_
      refine p_iconst (v := 1) (by decide) dX0_orderNodes_32 ?_
      refine p_icmp_ne (tgt := 40) dX0_orderNodes_33 (by decide) (fun hc => ?_) (fun hc => ?_)
      · have hF := ok_f hc hF
        refine p_iconst (v := 0) (by decide) dX0_orderNodes_40 ?_
        exact p_lv [0, 1, 2, 3, 4] rfl (b_X0_orderNodes_41 hd ih _ _ _ _ _ _ hF)
      · have hF := ok_t hc hF
        refine p_iconst (v := 1) (by decide) dX0_orderNodes_36 ?_
        refine p_goto (tgt := 41) dX0_orderNodes_37 (by decide) ?_
        exact p_lv [0, 1, 2, 3, 4] rfl (b_X0_orderNodes_41 hd ih _ _ _ _ _ _ hF)
theorem l_X0_orderNodes_10 {d : Nat} (hd : 1 ≤ d) {Q : Option Value → Hp → Prop} {k92 : Int32 → Hp → Option (Int32 × Hp)} (hk92 : ∀ (z2 : Int32) (s2 : Hp), ok jI (k92 z2 s2) Q → pw tC (d + 1) mX0_orderNodes 92 [(2, .int z2)] [] s2 Q) : ∀ (n : Nat) (v1 : Int32) (v2 : Int32) (v3 : Int32) (sg : Hp), ok jI (L_X0_orderNodes_10 k92 n v1 v2 v3 sg) Q → pw tC (d + 1) mX0_orderNodes 10 [(0, .ref 2), (1, .int v1), (2, .int v2), (3, .int v3)] [] sg Q := by
  intro n
  induction n with
  | zero =>
    intro v1 v2 v3 sg hF
    obtain ⟨_, _, h9, _⟩ := hF
    cases h9
  | succ n ih =>
    intro v1 v2 v3 sg hF
    refine p_iload_n rfl dX0_orderNodes_10 ?_
    refine p_bipush (v := 6) (by decide) dX0_orderNodes_11 ?_
    refine p_icmp_ge (tgt := 92) dX0_orderNodes_13 (by decide) (fun hc => ?_) (fun hc => ?_)
    · have hF := ok_t hc hF
      exact p_lv [2] rfl (hk92 _ _ hF)
    · have hF := ok_f hc hF
      refine p_iconst (v := 0) (by decide) dX0_orderNodes_16 ?_
      refine p_istore (Nat.le_of_ble_eq_true rfl) rfl dX0_orderNodes_17 ?_
      refine p_lv [0, 1, 2, 3, 4] rfl (l_X0_orderNodes_19 hd ?_ 200 _ _ _ _ _ hF)
      intro w3_1 w3_2 w3_3 s4 hF
      refine p_iinc (w := 1) (by decide) rfl (Nat.le_of_ble_eq_true rfl) rfl dX0_orderNodes_86 ?_
      refine p_goto (tgt := 10) dX0_orderNodes_89 (by decide) ?_
      exact p_lv [0, 1, 2, 3] rfl (ih _ _ _ _ hF)
theorem tX0_orderNodes {d : Nat} (hd : 2 ≤ d) {Q : Option Value → Hp → Prop}  {sg : Hp} (hF : ok jI (fX0_orderNodes  sg) Q) : pw tC d mX0_orderNodes 0 (lv_args 0 [.ref 2]) [] sg Q := by
  unfold fX0_orderNodes at hF
  obtain ⟨d, rfl⟩ : ∃ e, d = e + 1 := ⟨d - 1, by omega⟩
  have hd : 1 ≤ d := by omega
  show pw _ _ _ _ [(0, .ref 2)] [] _ _
  refine p_aload_n rfl dX0_orderNodes_0 ?_
  refine p_callV (c0 := 2) (av := []) qV_RX0_94 rfl rfl rfl rfl (Nat.le_of_ble_eq_true rfl) (Nat.le_of_ble_eq_true rfl) dX0_orderNodes_1 (tX0_noteAhead (by omega) (ok_b hF)) (fun r0 s2 hF => ?_)
  obtain ⟨r1, rfl, hF⟩ := hF
  refine p_iconst (v := 0) (by decide) dX0_orderNodes_4 ?_
  refine p_istore_n (Nat.le_of_ble_eq_true rfl) rfl dX0_orderNodes_5 ?_
  refine p_iconst (v := 0) (by decide) dX0_orderNodes_6 ?_
  refine p_istore_n (Nat.le_of_ble_eq_true rfl) rfl dX0_orderNodes_7 ?_
  refine p_iconst (v := 0) (by decide) dX0_orderNodes_8 ?_
  refine p_istore_n (Nat.le_of_ble_eq_true rfl) rfl dX0_orderNodes_9 ?_
  refine p_lv [0, 1, 2, 3] rfl (l_X0_orderNodes_10 hd ?_ 200 _ _ _ _ hF)
  intro w5_2 s6 hF
  refine p_iload_n rfl dX0_orderNodes_92 ?_
  exact p_iret rfl dX0_orderNodes_93 (ok_r (j := jI) hF)
theorem b_X0_hasRing_14 {d : Nat} (hd : 2 ≤ d) {Q : Option Value → Hp → Prop}  (vk0 : Int32) (sg : Hp) (hF : ok jI (B_X0_hasRing_14  vk0 sg) Q) : pw tC (d + 1) mX0_hasRing 14 [] [.int vk0] sg Q := by
  unfold B_X0_hasRing_14 at hF
  obtain ⟨hg, hF⟩ := ok_g hF
  exact p_zret rfl (b01_n hg).1 dX0_hasRing_14 (ok_r (j := jI) hF)
theorem tX0_hasRing {d : Nat} (hd : 3 ≤ d) {Q : Option Value → Hp → Prop}  {sg : Hp} (hF : ok jI (fX0_hasRing  sg) Q) : pw tC d mX0_hasRing 0 (lv_args 0 [.ref 2]) [] sg Q := by
  unfold fX0_hasRing at hF
  obtain ⟨d, rfl⟩ : ∃ e, d = e + 1 := ⟨d - 1, by omega⟩
  have hd : 2 ≤ d := by omega
  show pw _ _ _ _ [(0, .ref 2)] [] _ _
  refine p_aload_n rfl dX0_hasRing_0 ?_
  refine p_callV (c0 := 2) (av := []) qV_RX0_90 rfl rfl rfl rfl (Nat.le_of_ble_eq_true rfl) (Nat.le_of_ble_eq_true rfl) dX0_hasRing_1 (tX0_orderNodes (by omega) (ok_b hF)) (fun r0 s2 hF => ?_)
  obtain ⟨r1, rfl, hF⟩ := hF
  refine p_bipush (v := 6) (by decide) dX0_hasRing_4 ?_
  refine p_icmp_ge (tgt := 13) dX0_hasRing_6 (by decide) (fun hc => ?_) (fun hc => ?_)
  · have hF := ok_t hc hF
    refine p_iconst (v := 0) (by decide) dX0_hasRing_13 ?_
    exact p_lv [] rfl (b_X0_hasRing_14 hd  _ _ hF)
  · have hF := ok_f hc hF
    refine p_iconst (v := 1) (by decide) dX0_hasRing_9 ?_
    refine p_goto (tgt := 14) dX0_hasRing_10 (by decide) ?_
    exact p_lv [] rfl (b_X0_hasRing_14 hd  _ _ hF)
theorem l_X0_isServedOnWays_12 {d : Nat} {Q : Option Value → Hp → Prop} {k48 : Int32 → Hp → Option (Int32 × Hp)} (hk48 : ∀ (z1 : Int32) (s2 : Hp), ok jI (k48 z1 s2) Q → pw tC d mX0_isServedOnWays 48 [(0, .ref 2), (1, .int z1)] [] s2 Q) {k40 : Hp → Option (Int32 × Hp)} (hk40 : ∀ (s2 : Hp), ok jI (k40 s2) Q → pw tC d mX0_isServedOnWays 40 [] [] s2 Q) : ∀ (n : Nat) (v1 : Int32) (v2 : Int32) (sg : Hp), ok jI (L_X0_isServedOnWays_12 k48 k40 n v1 v2 sg) Q → pw tC d mX0_isServedOnWays 12 [(0, .ref 2), (1, .int v1), (2, .int v2)] [] sg Q := by
  intro n
  induction n with
  | zero =>
    intro v1 v2 sg hF
    obtain ⟨_, _, h9, _⟩ := hF
    cases h9
  | succ n ih =>
    intro v1 v2 sg hF
    refine p_iload_n rfl dX0_isServedOnWays_12 ?_
    refine p_aload_n rfl dX0_isServedOnWays_13 ?_
    refine p_getR (c1 := 13) qF_RX0_23 rfl rfl dX0_isServedOnWays_14 ?_
    refine p_iload_n rfl dX0_isServedOnWays_17 ?_
    obtain ⟨hg, hF⟩ := ok_g hF
    refine p_iald rfl (inb_in hg) dX0_isServedOnWays_18 ?_
    refine p_icmp_ge (tgt := 48) dX0_isServedOnWays_19 (by decide) (fun hc => ?_) (fun hc => ?_)
    · have hF := ok_t hc hF
      exact p_lv [0, 1] rfl (hk48 _ _ hF)
    · have hF := ok_f hc hF
      refine p_aload_n rfl dX0_isServedOnWays_22 ?_
      refine p_getR (c1 := 10) qF_RX0_9 rfl rfl dX0_isServedOnWays_23 ?_
      refine p_aload_n rfl dX0_isServedOnWays_26 ?_
      refine p_getR (c1 := 14) qF_RX0_26 rfl rfl dX0_isServedOnWays_27 ?_
      refine p_iload_n rfl dX0_isServedOnWays_30 ?_
      obtain ⟨hg, hF⟩ := ok_g hF
      refine p_aald rfl (inb_in hg) dX0_isServedOnWays_31 ?_
      refine p_iload_n rfl dX0_isServedOnWays_32 ?_
      obtain ⟨hg, hF⟩ := ok_g hF
      refine p_iald (isA_in hg) (inb_in hg) dX0_isServedOnWays_33 ?_
      obtain ⟨hg, hF⟩ := ok_g hF
      refine p_iald rfl (inb_in hg) dX0_isServedOnWays_34 ?_
      refine p_bipush (v := -9) (by decide) dX0_isServedOnWays_35 ?_
      refine p_icmp_ne (tgt := 42) dX0_isServedOnWays_37 (by decide) (fun hc => ?_) (fun hc => ?_)
      · have hF := ok_f hc hF
        refine p_iinc (w := 1) (by decide) rfl (Nat.le_of_ble_eq_true rfl) rfl dX0_isServedOnWays_42 ?_
        refine p_goto (tgt := 12) dX0_isServedOnWays_45 (by decide) ?_
        exact p_lv [0, 1, 2] rfl (ih _ _ _ hF)
      · have hF := ok_t hc hF
        exact p_lv [] rfl (hk40 _ hF)
theorem l_X0_isServedOnWays_2 {d : Nat} {Q : Option Value → Hp → Prop} {k54 : Hp → Option (Int32 × Hp)} (hk54 : ∀ (s2 : Hp), ok jI (k54 s2) Q → pw tC d mX0_isServedOnWays 54 [] [] s2 Q) {k40 : Hp → Option (Int32 × Hp)} (hk40 : ∀ (s2 : Hp), ok jI (k40 s2) Q → pw tC d mX0_isServedOnWays 40 [] [] s2 Q) : ∀ (n : Nat) (v1 : Int32) (sg : Hp), ok jI (L_X0_isServedOnWays_2 k54 k40 n v1 sg) Q → pw tC d mX0_isServedOnWays 2 [(0, .ref 2), (1, .int v1)] [] sg Q := by
  intro n
  induction n with
  | zero =>
    intro v1 sg hF
    obtain ⟨_, _, h9, _⟩ := hF
    cases h9
  | succ n ih =>
    intro v1 sg hF
    refine p_iload_n rfl dX0_isServedOnWays_2 ?_
    refine p_aload_n rfl dX0_isServedOnWays_3 ?_
    refine p_getI qF_RX0_29 rfl rfl dX0_isServedOnWays_4 ?_
    refine p_icmp_ge (tgt := 54) dX0_isServedOnWays_7 (by decide) (fun hc => ?_) (fun hc => ?_)
    · have hF := ok_t hc hF
      exact p_lv [] rfl (hk54 _ hF)
    · have hF := ok_f hc hF
      refine p_iconst (v := 0) (by decide) dX0_isServedOnWays_10 ?_
      refine p_istore_n (Nat.le_of_ble_eq_true rfl) rfl dX0_isServedOnWays_11 ?_
      refine p_lv [0, 1, 2] rfl (l_X0_isServedOnWays_12 ?_ hk40 200 _ _ _ hF)
      intro w1_1 s2 hF
      refine p_iinc (w := 1) (by decide) rfl (Nat.le_of_ble_eq_true rfl) rfl dX0_isServedOnWays_48 ?_
      refine p_goto (tgt := 2) dX0_isServedOnWays_51 (by decide) ?_
      exact p_lv [0, 1] rfl (ih _ _ hF)
theorem tX0_isServedOnWays {d : Nat} {Q : Option Value → Hp → Prop}  {sg : Hp} (hF : ok jI (fX0_isServedOnWays  sg) Q) : pw tC d mX0_isServedOnWays 0 (lv_args 0 [.ref 2]) [] sg Q := by
  unfold fX0_isServedOnWays at hF
  show pw _ _ _ _ [(0, .ref 2)] [] _ _
  refine p_iconst (v := 0) (by decide) dX0_isServedOnWays_0 ?_
  refine p_istore_n (Nat.le_of_ble_eq_true rfl) rfl dX0_isServedOnWays_1 ?_
  refine p_lv [0, 1] rfl (l_X0_isServedOnWays_2 ?_ ?_ 200 _ _ hF)
  · intro s4 hF
    refine p_iconst (v := 1) (by decide) dX0_isServedOnWays_54 ?_
    exact p_zret rfl rfl dX0_isServedOnWays_55 (ok_r (j := jI) hF)
  · intro s6 hF
    refine p_iconst (v := 0) (by decide) dX0_isServedOnWays_40 ?_
    exact p_zret rfl rfl dX0_isServedOnWays_41 (ok_r (j := jI) hF)
theorem l_X0_placeOn_2 {d : Nat} {Q : Option Value → Hp → Prop} {k32 : Hp → Option (Int32 × Hp)} (hk32 : ∀ (s2 : Hp), ok jI (k32 s2) Q → pw tC d mX0_placeOn 32 [] [] s2 Q) {k24 : Int32 → Hp → Option (Int32 × Hp)} (hk24 : ∀ (z3 : Int32) (s2 : Hp), ok jI (k24 z3 s2) Q → pw tC d mX0_placeOn 24 [(3, .int z3)] [] s2 Q) : ∀ (n : Nat) (v1 : Int32) (v2 : Int32) (v3 : Int32) (sg : Hp), ok jI (L_X0_placeOn_2 k32 k24 n v1 v2 v3 sg) Q → pw tC d mX0_placeOn 2 [(0, .ref 2), (1, .int v1), (2, .int v2), (3, .int v3)] [] sg Q := by
  intro n
  induction n with
  | zero =>
    intro v1 v2 v3 sg hF
    obtain ⟨_, _, h9, _⟩ := hF
    cases h9
  | succ n ih =>
    intro v1 v2 v3 sg hF
    refine p_iload_n rfl dX0_placeOn_2 ?_
    refine p_aload_n rfl dX0_placeOn_3 ?_
    refine p_getR (c1 := 13) qF_RX0_23 rfl rfl dX0_placeOn_4 ?_
    refine p_iload_n rfl dX0_placeOn_7 ?_
    obtain ⟨hg, hF⟩ := ok_g hF
    refine p_iald rfl (inb_in hg) dX0_placeOn_8 ?_
    refine p_icmp_ge (tgt := 32) dX0_placeOn_9 (by decide) (fun hc => ?_) (fun hc => ?_)
    · have hF := ok_t hc hF
      exact p_lv [] rfl (hk32 _ hF)
    · have hF := ok_f hc hF
      refine p_aload_n rfl dX0_placeOn_12 ?_
      refine p_getR (c1 := 14) qF_RX0_26 rfl rfl dX0_placeOn_13 ?_
      refine p_iload_n rfl dX0_placeOn_16 ?_
      obtain ⟨hg, hF⟩ := ok_g hF
      refine p_aald rfl (inb_in hg) dX0_placeOn_17 ?_
      refine p_iload_n rfl dX0_placeOn_18 ?_
      obtain ⟨hg, hF⟩ := ok_g hF
      refine p_iald (isA_in hg) (inb_in hg) dX0_placeOn_19 ?_
      refine p_iload_n rfl dX0_placeOn_20 ?_
      refine p_icmp_ne (tgt := 26) dX0_placeOn_21 (by decide) (fun hc => ?_) (fun hc => ?_)
      · have hF := ok_f hc hF
        refine p_iinc (w := 1) (by decide) rfl (Nat.le_of_ble_eq_true rfl) rfl dX0_placeOn_26 ?_
        refine p_goto (tgt := 2) dX0_placeOn_29 (by decide) ?_
        exact p_lv [0, 1, 2, 3] rfl (ih _ _ _ _ hF)
      · have hF := ok_t hc hF
        exact p_lv [3] rfl (hk24 _ _ hF)
theorem tX0_placeOn {d : Nat} {Q : Option Value → Hp → Prop} {a1 : Int32} {a2 : Int32} {sg : Hp} (hF : ok jI (fX0_placeOn a1 a2 sg) Q) : pw tC d mX0_placeOn 0 (lv_args 0 [.ref 2, .int a1, .int a2]) [] sg Q := by
  unfold fX0_placeOn at hF
  show pw _ _ _ _ [(0, .ref 2), (1, .int a1), (2, .int a2)] [] _ _
  refine p_iconst (v := 0) (by decide) dX0_placeOn_0 ?_
  refine p_istore_n (Nat.le_of_ble_eq_true rfl) rfl dX0_placeOn_1 ?_
  refine p_lv [0, 1, 2, 3] rfl (l_X0_placeOn_2 ?_ ?_ 200 _ _ _ _ hF)
  · intro s2 hF
    refine p_iconst (v := -1) (by decide) dX0_placeOn_32 ?_
    exact p_iret rfl dX0_placeOn_33 (ok_r (j := jI) hF)
  · intro w3_3 s4 hF
    refine p_iload_n rfl dX0_placeOn_24 ?_
    exact p_iret rfl dX0_placeOn_25 (ok_r (j := jI) hF)
theorem l_X1_fillSum_2 {d : Nat} {Q : Option Value → Hp → Prop} {k29 : Hp → Option (Unit × Hp)} (hk29 : ∀ (s2 : Hp), ok jV (k29 s2) Q → pw tC (d + 1) mX1_fillSum 29 [] [] s2 Q) : ∀ (n : Nat) (v0 : Nat) (v1 : Nat) (v2 : Nat) (v3 : Int32) (sg : Hp), ok jV (L_X1_fillSum_2 k29 n v0 v1 v2 v3 sg) Q → pw tC (d + 1) mX1_fillSum 2 [(0, .ref v0), (1, .ref v1), (2, .ref v2), (3, .int v3)] [] sg Q := by
  intro n
  induction n with
  | zero =>
    intro v0 v1 v2 v3 sg hF
    obtain ⟨_, _, h9, _⟩ := hF
    cases h9
  | succ n ih =>
    intro v0 v1 v2 v3 sg hF
    refine p_iload_n rfl dX1_fillSum_2 ?_
    refine p_bipush (v := 40) (by decide) dX1_fillSum_3 ?_
    refine p_icmp_gt (tgt := 29) dX1_fillSum_5 (by decide) (fun hc => ?_) (fun hc => ?_)
    · have hF := ok_t hc hF
      exact p_lv [] rfl (hk29 _ hF)
    · have hF := ok_f hc hF
      refine p_aload_n rfl dX1_fillSum_8 ?_
      refine p_iload_n rfl dX1_fillSum_9 ?_
      refine p_aload_n rfl dX1_fillSum_10 ?_
      refine p_iload_n rfl dX1_fillSum_11 ?_
      obtain ⟨hg, hF⟩ := ok_g hF
      refine p_iald (isA_in hg) (inb_in hg) dX1_fillSum_12 ?_
      refine p_aload_n rfl dX1_fillSum_13 ?_
      refine p_iload_n rfl dX1_fillSum_14 ?_
      obtain ⟨hg, hF⟩ := ok_g hF
      refine p_iald (isA_in hg) (inb_in hg) dX1_fillSum_15 ?_
      refine p_iadd dX1_fillSum_16 ?_
      refine p_ldc wd_322 dX1_fillSum_17 ?_
      refine p_min wd_319 wd_320 wd_77 wd_321 (Nat.le_of_ble_eq_true rfl) dX1_fillSum_19 ?_
      obtain ⟨hg, hF⟩ := ok_g hF
      refine p_iast (isA_in hg) (inb_in hg) dX1_fillSum_22 ?_
      refine p_iinc (w := 1) (by decide) rfl (Nat.le_of_ble_eq_true rfl) rfl dX1_fillSum_23 ?_
      refine p_goto (tgt := 2) dX1_fillSum_26 (by decide) ?_
      exact p_lv [0, 1, 2, 3] rfl (ih _ _ _ _ _ hF)
theorem tX1_fillSum {d : Nat} (hd : 1 ≤ d) {Q : Option Value → Hp → Prop} {a1 : Nat} {a2 : Nat} {a3 : Nat} {sg : Hp} (hF : ok jV (fX1_fillSum a1 a2 a3 sg) Q) : pw tC d mX1_fillSum 0 (lv_args 0 [.ref a1, .ref a2, .ref a3]) [] sg Q := by
  unfold fX1_fillSum at hF
  obtain ⟨d, rfl⟩ : ∃ e, d = e + 1 := ⟨d - 1, by omega⟩
  show pw _ _ _ _ [(0, .ref a1), (1, .ref a2), (2, .ref a3)] [] _ _
  refine p_iconst (v := 0) (by decide) dX1_fillSum_0 ?_
  refine p_istore_n (Nat.le_of_ble_eq_true rfl) rfl dX1_fillSum_1 ?_
  refine p_lv [0, 1, 2, 3] rfl (l_X1_fillSum_2 ?_ 200 _ _ _ _ _ hF)
  intro s2 hF
  exact p_vret rfl dX1_fillSum_29 (ok_r (j := jV) hF)
theorem b_X0_sumComing_56 {d : Nat} (hd : 1 ≤ d) {Q : Option Value → Hp → Prop} {k11 : Int32 → Int32 → Int32 → Int32 → Hp → Option (Unit × Hp)} (hk11 : ∀ (z1 : Int32) (z2 : Int32) (z3 : Int32) (z4 : Int32) (s2 : Hp), ok jV (k11 z1 z2 z3 z4 s2) Q → pw tC (d + 1) mX0_sumComing 11 [(0, .ref 2), (1, .int z1), (2, .int z2), (3, .int z3), (4, .int z4)] [] s2 Q) (v1 : Int32) (v2 : Int32) (v3 : Int32) (v4 : Int32) (sg : Hp) (hF : ok jV (B_X0_sumComing_56 k11 v1 v2 v3 v4 sg) Q) : pw tC (d + 1) mX0_sumComing 56 [(0, .ref 2), (1, .int v1), (2, .int v2), (3, .int v3), (4, .int v4)] [] sg Q := by
  unfold B_X0_sumComing_56 at hF
  refine p_iinc (w := 1) (by decide) rfl (Nat.le_of_ble_eq_true rfl) rfl dX0_sumComing_56 ?_
  refine p_goto (tgt := 11) dX0_sumComing_59 (by decide) ?_
  exact p_lv [0, 1, 2, 3, 4] rfl (hk11 _ _ _ _ _ hF)
theorem l_X0_sumComing_11 {d : Nat} (hd : 1 ≤ d) {Q : Option Value → Hp → Prop} {k62 : Hp → Option (Unit × Hp)} (hk62 : ∀ (s2 : Hp), ok jV (k62 s2) Q → pw tC (d + 1) mX0_sumComing 62 [] [] s2 Q) : ∀ (n : Nat) (v1 : Int32) (v2 : Int32) (v3 : Int32) (v4 : Int32) (sg : Hp), ok jV (L_X0_sumComing_11 k62 n v1 v2 v3 v4 sg) Q → pw tC (d + 1) mX0_sumComing 11 [(0, .ref 2), (1, .int v1), (2, .int v2), (3, .int v3), (4, .int v4)] [] sg Q := by
  intro n
  induction n with
  | zero =>
    intro v1 v2 v3 v4 sg hF
    obtain ⟨_, _, h9, _⟩ := hF
    cases h9
  | succ n ih =>
    intro v1 v2 v3 v4 sg hF
    refine p_iload rfl dX0_sumComing_11 ?_
    refine p_iload_n rfl dX0_sumComing_13 ?_
    refine p_icmp_ge (tgt := 62) dX0_sumComing_14 (by decide) (fun hc => ?_) (fun hc => ?_)
    · have hF := ok_t hc hF
      exact p_lv [] rfl (hk62 _ hF)
    · have hF := ok_f hc hF
      refine p_aload_n rfl dX0_sumComing_17 ?_
      refine p_iload rfl dX0_sumComing_18 ?_
      refine p_iload_n rfl dX0_sumComing_20 ?_
      refine p_callV (c0 := 2) (av := [.int _, .int _]) qV_RX0_104 rfl rfl rfl rfl (Nat.le_of_ble_eq_true rfl) (Nat.le_of_ble_eq_true rfl) dX0_sumComing_21 (tX0_placeOn (ok_b hF)) (fun r0 s4 hF => ?_)
      obtain ⟨r3, rfl, hF⟩ := hF
      refine p_istore (Nat.le_of_ble_eq_true rfl) rfl dX0_sumComing_24 ?_
      refine p_iload rfl dX0_sumComing_26 ?_
      refine p_if_lt (tgt := 56) dX0_sumComing_28 (by decide) (fun hc => ?_) (fun hc => ?_)
      · have hF := ok_t hc hF
        exact p_lv [0, 1, 2, 3, 4] rfl (b_X0_sumComing_56 hd ih _ _ _ _ _ hF)
      · have hF := ok_f hc hF
        refine p_iload rfl dX0_sumComing_31 ?_
        refine p_iload_n rfl dX0_sumComing_33 ?_
        refine p_icmp_eq (tgt := 56) dX0_sumComing_34 (by decide) (fun hc => ?_) (fun hc => ?_)
        · have hF := ok_t hc hF
          exact p_lv [0, 1, 2, 3, 4] rfl (b_X0_sumComing_56 hd ih _ _ _ _ _ hF)
        · have hF := ok_f hc hF
          refine p_aload_n rfl dX0_sumComing_37 ?_
          refine p_getR (c1 := 20) qF_RX0_51 rfl rfl dX0_sumComing_38 ?_
          refine p_aload_n rfl dX0_sumComing_41 ?_
          refine p_iload rfl dX0_sumComing_42 ?_
          refine p_iload rfl dX0_sumComing_44 ?_
          refine p_callV (c0 := 2) (av := [.int _, .int _]) qV_RX0_82 rfl rfl rfl rfl (Nat.le_of_ble_eq_true rfl) (Nat.le_of_ble_eq_true rfl) dX0_sumComing_46 (tX0_comesAt (ok_b hF)) (fun r0 s6 hF => ?_)
          obtain ⟨r5, rfl, hF⟩ := hF
          refine p_aload_n rfl dX0_sumComing_49 ?_
          refine p_getR (c1 := 20) qF_RX0_51 rfl rfl dX0_sumComing_50 ?_
          refine p_callS (av := [.ref 20, .ref _, .ref 20]) qS_RX0_137 rfl (Nat.le_of_ble_eq_true rfl) (Nat.le_of_ble_eq_true rfl) dX0_sumComing_53 (tX1_fillSum (by omega) (ok_b hF)) (fun r0 s8 hF => ?_)
          obtain ⟨r7, rfl, hF⟩ := hF
          exact p_lv [0, 1, 2, 3, 4] rfl (b_X0_sumComing_56 hd ih _ _ _ _ _ hF)
theorem tX0_sumComing {d : Nat} (hd : 2 ≤ d) {Q : Option Value → Hp → Prop} {a1 : Int32} {a2 : Int32} {a3 : Int32} {sg : Hp} (hF : ok jV (fX0_sumComing a1 a2 a3 sg) Q) : pw tC d mX0_sumComing 0 (lv_args 0 [.ref 2, .int a1, .int a2, .int a3]) [] sg Q := by
  unfold fX0_sumComing at hF
  obtain ⟨d, rfl⟩ : ∃ e, d = e + 1 := ⟨d - 1, by omega⟩
  have hd : 1 ≤ d := by omega
  show pw _ _ _ _ [(0, .ref 2), (1, .int a1), (2, .int a2), (3, .int a3)] [] _ _
  refine p_aload_n rfl dX0_sumComing_0 ?_
  refine p_getR (c1 := 20) qF_RX0_51 rfl rfl dX0_sumComing_1 ?_
  refine p_iconst (v := 0) (by decide) dX0_sumComing_4 ?_
  refine p_callS (av := [.ref 20, .int _]) qS_RX0_64 rfl (Nat.le_of_ble_eq_true rfl) (Nat.le_of_ble_eq_true rfl) dX0_sumComing_5 (tJ7_fill_53178 (ok_b hF)) (fun r0 s2 hF => ?_)
  obtain ⟨r1, rfl, hF⟩ := hF
  refine p_iconst (v := 0) (by decide) dX0_sumComing_8 ?_
  refine p_istore (Nat.le_of_ble_eq_true rfl) rfl dX0_sumComing_9 ?_
  refine p_lv [0, 1, 2, 3, 4] rfl (l_X0_sumComing_11 hd ?_ 200 _ _ _ _ _ hF)
  intro s10 hF
  exact p_vret rfl dX0_sumComing_62 (ok_r (j := jV) hF)
theorem tX0_hasAt {d : Nat} {Q : Option Value → Hp → Prop} {a1 : Int32} {a2 : Int32} {sg : Hp} (hF : ok jA (fX0_hasAt a1 a2 sg) Q) : pw tC d mX0_hasAt 0 (lv_args 0 [.ref 2, .int a1, .int a2]) [] sg Q := by
  unfold fX0_hasAt at hF
  show pw _ _ _ _ [(0, .ref 2), (1, .int a1), (2, .int a2)] [] _ _
  refine p_aload_n rfl dX0_hasAt_0 ?_
  refine p_getR (c1 := 16) qF_RX0_39 rfl rfl dX0_hasAt_1 ?_
  refine p_iload_n rfl dX0_hasAt_4 ?_
  refine p_iconst (v := 4) (by decide) dX0_hasAt_5 ?_
  refine p_imul dX0_hasAt_6 ?_
  refine p_iload_n rfl dX0_hasAt_7 ?_
  refine p_iadd dX0_hasAt_8 ?_
  obtain ⟨hg, hF⟩ := ok_g hF
  refine p_aald rfl (inb_in hg) dX0_hasAt_9 ?_
  exact p_aret rfl dX0_hasAt_10 (ok_r (j := jA) hF)
theorem l_X1_longestWait_23 {d : Nat} {Q : Option Value → Hp → Prop} {k47 : Nat → Nat → Int32 → Int32 → Int32 → Int32 → Hp → Option (Int32 × Hp)} (hk47 : ∀ (z0 : Nat) (z1 : Nat) (z2 : Int32) (z3 : Int32) (z4 : Int32) (z5 : Int32) (s2 : Hp), ok jI (k47 z0 z1 z2 z3 z4 z5 s2) Q → pw tC (d + 1) mX1_longestWait 47 [(0, .ref z0), (1, .ref z1), (2, .int z2), (3, .int z3), (4, .int z4), (5, .int z5)] [] s2 Q) : ∀ (n : Nat) (v0 : Nat) (v1 : Nat) (v2 : Int32) (v3 : Int32) (v4 : Int32) (v5 : Int32) (sg : Hp), ok jI (L_X1_longestWait_23 k47 n v0 v1 v2 v3 v4 v5 sg) Q → pw tC (d + 1) mX1_longestWait 23 [(0, .ref v0), (1, .ref v1), (2, .int v2), (3, .int v3), (4, .int v4), (5, .int v5)] [] sg Q := by
  intro n
  induction n with
  | zero =>
    intro v0 v1 v2 v3 v4 v5 sg hF
    obtain ⟨_, _, h9, _⟩ := hF
    cases h9
  | succ n ih =>
    intro v0 v1 v2 v3 v4 v5 sg hF
    refine p_iload rfl dX1_longestWait_23 ?_
    refine p_bipush (v := 40) (by decide) dX1_longestWait_25 ?_
    refine p_icmp_gt (tgt := 47) dX1_longestWait_27 (by decide) (fun hc => ?_) (fun hc => ?_)
    · have hF := ok_t hc hF
      exact p_lv [0, 1, 2, 3, 4, 5] rfl (hk47 _ _ _ _ _ _ _ hF)
    · have hF := ok_f hc hF
      refine p_aload_n rfl dX1_longestWait_30 ?_
      refine p_iload rfl dX1_longestWait_31 ?_
      obtain ⟨hg, hF⟩ := ok_g hF
      refine p_iald (isA_in hg) (inb_in hg) dX1_longestWait_33 ?_
      refine p_aload_n rfl dX1_longestWait_34 ?_
      refine p_iload rfl dX1_longestWait_35 ?_
      obtain ⟨hg, hF⟩ := ok_g hF
      refine p_iald (isA_in hg) (inb_in hg) dX1_longestWait_37 ?_
      refine p_icmp_ge (tgt := 47) dX1_longestWait_38 (by decide) (fun hc => ?_) (fun hc => ?_)
      · have hF := ok_t hc hF
        exact p_lv [0, 1, 2, 3, 4, 5] rfl (hk47 _ _ _ _ _ _ _ hF)
      · have hF := ok_f hc hF
        refine p_iinc (w := 1) (by decide) rfl (Nat.le_of_ble_eq_true rfl) rfl dX1_longestWait_41 ?_
        refine p_goto (tgt := 23) dX1_longestWait_44 (by decide) ?_
        exact p_lv [0, 1, 2, 3, 4, 5] rfl (ih _ _ _ _ _ _ _ hF)
theorem l_X1_longestWait_8 {d : Nat} {Q : Option Value → Hp → Prop} {k73 : Int32 → Hp → Option (Int32 × Hp)} (hk73 : ∀ (z3 : Int32) (s2 : Hp), ok jI (k73 z3 s2) Q → pw tC (d + 1) mX1_longestWait 73 [(3, .int z3)] [] s2 Q) {k54 : Hp → Option (Int32 × Hp)} (hk54 : ∀ (s2 : Hp), ok jI (k54 s2) Q → pw tC (d + 1) mX1_longestWait 54 [] [] s2 Q) : ∀ (n : Nat) (v0 : Nat) (v1 : Nat) (v2 : Int32) (v3 : Int32) (v4 : Int32) (v5 : Int32) (sg : Hp), ok jI (L_X1_longestWait_8 k73 k54 n v0 v1 v2 v3 v4 v5 sg) Q → pw tC (d + 1) mX1_longestWait 8 [(0, .ref v0), (1, .ref v1), (2, .int v2), (3, .int v3), (4, .int v4), (5, .int v5)] [] sg Q := by
  intro n
  induction n with
  | zero =>
    intro v0 v1 v2 v3 v4 v5 sg hF
    obtain ⟨_, _, h9, _⟩ := hF
    cases h9
  | succ n ih =>
    intro v0 v1 v2 v3 v4 v5 sg hF
    refine p_iload rfl dX1_longestWait_8 ?_
    refine p_iload_n rfl dX1_longestWait_10 ?_
    refine p_icmp_gt (tgt := 73) dX1_longestWait_11 (by decide) (fun hc => ?_) (fun hc => ?_)
    · have hF := ok_t hc hF
      exact p_lv [3] rfl (hk73 _ _ hF)
    · have hF := ok_f hc hF
      refine p_iload rfl dX1_longestWait_14 ?_
      refine p_iload rfl dX1_longestWait_16 ?_
      refine p_max wd_429 wd_430 wd_77 wd_431 (Nat.le_of_ble_eq_true rfl) dX1_longestWait_18 ?_
      refine p_istore (Nat.le_of_ble_eq_true rfl) rfl dX1_longestWait_21 ?_
      refine p_lv [0, 1, 2, 3, 4, 5] rfl (l_X1_longestWait_23 ?_ 200 _ _ _ _ _ _ _ hF)
      intro w1_0 w1_1 w1_2 w1_3 w1_4 w1_5 s2 hF
      refine p_iload rfl dX1_longestWait_47 ?_
      refine p_bipush (v := 40) (by decide) dX1_longestWait_49 ?_
      refine p_icmp_le (tgt := 57) dX1_longestWait_51 (by decide) (fun hc => ?_) (fun hc => ?_)
      · have hF := ok_t hc hF
        refine p_iload_n rfl dX1_longestWait_57 ?_
        refine p_iload rfl dX1_longestWait_58 ?_
        refine p_iload rfl dX1_longestWait_60 ?_
        refine p_isub dX1_longestWait_62 ?_
        refine p_max wd_429 wd_430 wd_77 wd_431 (Nat.le_of_ble_eq_true rfl) dX1_longestWait_63 ?_
        refine p_istore_n (Nat.le_of_ble_eq_true rfl) rfl dX1_longestWait_66 ?_
        refine p_iinc (w := 1) (by decide) rfl (Nat.le_of_ble_eq_true rfl) rfl dX1_longestWait_67 ?_
        refine p_goto (tgt := 8) dX1_longestWait_70 (by decide) ?_
        exact p_lv [0, 1, 2, 3, 4, 5] rfl (ih _ _ _ _ _ _ _ hF)
      · have hF := ok_f hc hF
        exact p_lv [] rfl (hk54 _ hF)
theorem tX1_longestWait {d : Nat} (hd : 1 ≤ d) {Q : Option Value → Hp → Prop} {a1 : Nat} {a2 : Nat} {a3 : Int32} {sg : Hp} (hF : ok jI (fX1_longestWait a1 a2 a3 sg) Q) : pw tC d mX1_longestWait 0 (lv_args 0 [.ref a1, .ref a2, .int a3]) [] sg Q := by
  unfold fX1_longestWait at hF
  obtain ⟨d, rfl⟩ : ∃ e, d = e + 1 := ⟨d - 1, by omega⟩
  show pw _ _ _ _ [(0, .ref a1), (1, .ref a2), (2, .int a3)] [] _ _
  refine p_iconst (v := 0) (by decide) dX1_longestWait_0 ?_
  refine p_istore_n (Nat.le_of_ble_eq_true rfl) rfl dX1_longestWait_1 ?_
  refine p_iconst (v := 0) (by decide) dX1_longestWait_2 ?_
  refine p_istore (Nat.le_of_ble_eq_true rfl) rfl dX1_longestWait_3 ?_
  refine p_iconst (v := 0) (by decide) dX1_longestWait_5 ?_
  refine p_istore (Nat.le_of_ble_eq_true rfl) rfl dX1_longestWait_6 ?_
  refine p_lv [0, 1, 2, 3, 4, 5] rfl (l_X1_longestWait_8 ?_ ?_ 200 _ _ _ _ _ _ _ hF)
  · intro w3_3 s4 hF
    refine p_iload_n rfl dX1_longestWait_73 ?_
    exact p_iret rfl dX1_longestWait_74 (ok_r (j := jI) hF)
  · intro s6 hF
    refine p_bipush (v := -9) (by decide) dX1_longestWait_54 ?_
    exact p_iret rfl dX1_longestWait_56 (ok_r (j := jI) hF)
theorem l_X1_fillLeft_5 {d : Nat} {Q : Option Value → Hp → Prop} {k37 : Hp → Option (Unit × Hp)} (hk37 : ∀ (s2 : Hp), ok jV (k37 s2) Q → pw tC (d + 1) mX1_fillLeft 37 [] [] s2 Q) : ∀ (n : Nat) (v0 : Nat) (v1 : Nat) (v2 : Nat) (v3 : Int32) (v4 : Int32) (sg : Hp), ok jV (L_X1_fillLeft_5 k37 n v0 v1 v2 v3 v4 sg) Q → pw tC (d + 1) mX1_fillLeft 5 [(0, .ref v0), (1, .ref v1), (2, .ref v2), (3, .int v3), (4, .int v4)] [] sg Q := by
  intro n
  induction n with
  | zero =>
    intro v0 v1 v2 v3 v4 sg hF
    obtain ⟨_, _, h9, _⟩ := hF
    cases h9
  | succ n ih =>
    intro v0 v1 v2 v3 v4 sg hF
    refine p_iload rfl dX1_fillLeft_5 ?_
    refine p_bipush (v := 40) (by decide) dX1_fillLeft_7 ?_
    refine p_icmp_gt (tgt := 37) dX1_fillLeft_9 (by decide) (fun hc => ?_) (fun hc => ?_)
    · have hF := ok_t hc hF
      exact p_lv [] rfl (hk37 _ hF)
    · have hF := ok_f hc hF
      refine p_iload_n rfl dX1_fillLeft_12 ?_
      refine p_aload_n rfl dX1_fillLeft_13 ?_
      refine p_iload rfl dX1_fillLeft_14 ?_
      obtain ⟨hg, hF⟩ := ok_g hF
      refine p_iald (isA_in hg) (inb_in hg) dX1_fillLeft_16 ?_
      refine p_aload_n rfl dX1_fillLeft_17 ?_
      refine p_iload rfl dX1_fillLeft_18 ?_
      obtain ⟨hg, hF⟩ := ok_g hF
      refine p_iald (isA_in hg) (inb_in hg) dX1_fillLeft_20 ?_
      refine p_isub dX1_fillLeft_21 ?_
      refine p_max wd_429 wd_430 wd_77 wd_431 (Nat.le_of_ble_eq_true rfl) dX1_fillLeft_22 ?_
      refine p_istore_n (Nat.le_of_ble_eq_true rfl) rfl dX1_fillLeft_25 ?_
      refine p_aload_n rfl dX1_fillLeft_26 ?_
      refine p_iload rfl dX1_fillLeft_27 ?_
      refine p_iload_n rfl dX1_fillLeft_29 ?_
      obtain ⟨hg, hF⟩ := ok_g hF
      refine p_iast (isA_in hg) (inb_in hg) dX1_fillLeft_30 ?_
      refine p_iinc (w := 1) (by decide) rfl (Nat.le_of_ble_eq_true rfl) rfl dX1_fillLeft_31 ?_
      refine p_goto (tgt := 5) dX1_fillLeft_34 (by decide) ?_
      exact p_lv [0, 1, 2, 3, 4] rfl (ih _ _ _ _ _ _ hF)
theorem tX1_fillLeft {d : Nat} (hd : 1 ≤ d) {Q : Option Value → Hp → Prop} {a1 : Nat} {a2 : Nat} {a3 : Nat} {sg : Hp} (hF : ok jV (fX1_fillLeft a1 a2 a3 sg) Q) : pw tC d mX1_fillLeft 0 (lv_args 0 [.ref a1, .ref a2, .ref a3]) [] sg Q := by
  unfold fX1_fillLeft at hF
  obtain ⟨d, rfl⟩ : ∃ e, d = e + 1 := ⟨d - 1, by omega⟩
  show pw _ _ _ _ [(0, .ref a1), (1, .ref a2), (2, .ref a3)] [] _ _
  refine p_iconst (v := 0) (by decide) dX1_fillLeft_0 ?_
  refine p_istore_n (Nat.le_of_ble_eq_true rfl) rfl dX1_fillLeft_1 ?_
  refine p_iconst (v := 0) (by decide) dX1_fillLeft_2 ?_
  refine p_istore (Nat.le_of_ble_eq_true rfl) rfl dX1_fillLeft_3 ?_
  refine p_lv [0, 1, 2, 3, 4] rfl (l_X1_fillLeft_5 ?_ 200 _ _ _ _ _ _ hF)
  intro s2 hF
  exact p_vret rfl dX1_fillLeft_37 (ok_r (j := jV) hF)
theorem tX0_goesOnFrom {d : Nat} {Q : Option Value → Hp → Prop} {a1 : Int32} {a2 : Int32} {sg : Hp} (hF : ok jA (fX0_goesOnFrom a1 a2 sg) Q) : pw tC d mX0_goesOnFrom 0 (lv_args 0 [.ref 2, .int a1, .int a2]) [] sg Q := by
  unfold fX0_goesOnFrom at hF
  show pw _ _ _ _ [(0, .ref 2), (1, .int a1), (2, .int a2)] [] _ _
  refine p_aload_n rfl dX0_goesOnFrom_0 ?_
  refine p_getR (c1 := 15) qF_RX0_36 rfl rfl dX0_goesOnFrom_1 ?_
  refine p_iload_n rfl dX0_goesOnFrom_4 ?_
  refine p_iconst (v := 5) (by decide) dX0_goesOnFrom_5 ?_
  refine p_imul dX0_goesOnFrom_6 ?_
  refine p_iload_n rfl dX0_goesOnFrom_7 ?_
  refine p_iadd dX0_goesOnFrom_8 ?_
  refine p_iconst (v := 1) (by decide) dX0_goesOnFrom_9 ?_
  refine p_iadd dX0_goesOnFrom_10 ?_
  obtain ⟨hg, hF⟩ := ok_g hF
  refine p_aald rfl (inb_in hg) dX0_goesOnFrom_11 ?_
  exact p_aret rfl dX0_goesOnFrom_12 (ok_r (j := jA) hF)
theorem l_X1_fillAhead_6 {d : Nat} {Q : Option Value → Hp → Prop} {k31 : Hp → Option (Unit × Hp)} (hk31 : ∀ (s2 : Hp), ok jV (k31 s2) Q → pw tC (d + 1) mX1_fillAhead 31 [] [] s2 Q) : ∀ (n : Nat) (v0 : Nat) (v1 : Int32) (v2 : Nat) (v3 : Int32) (sg : Hp), ok jV (L_X1_fillAhead_6 k31 n v0 v1 v2 v3 sg) Q → pw tC (d + 1) mX1_fillAhead 6 [(0, .ref v0), (1, .int v1), (2, .ref v2), (3, .int v3)] [] sg Q := by
  intro n
  induction n with
  | zero =>
    intro v0 v1 v2 v3 sg hF
    obtain ⟨_, _, h9, _⟩ := hF
    cases h9
  | succ n ih =>
    intro v0 v1 v2 v3 sg hF
    refine p_iload_n rfl dX1_fillAhead_6 ?_
    refine p_bipush (v := 40) (by decide) dX1_fillAhead_7 ?_
    refine p_icmp_gt (tgt := 31) dX1_fillAhead_9 (by decide) (fun hc => ?_) (fun hc => ?_)
    · have hF := ok_t hc hF
      exact p_lv [] rfl (hk31 _ hF)
    · have hF := ok_f hc hF
      refine p_aload_n rfl dX1_fillAhead_12 ?_
      refine p_iload_n rfl dX1_fillAhead_13 ?_
      refine p_aload_n rfl dX1_fillAhead_14 ?_
      refine p_iload_n rfl dX1_fillAhead_15 ?_
      refine p_iload_n rfl dX1_fillAhead_16 ?_
      refine p_iadd dX1_fillAhead_17 ?_
      refine p_bipush (v := 40) (by decide) dX1_fillAhead_18 ?_
      refine p_min wd_319 wd_320 wd_77 wd_321 (Nat.le_of_ble_eq_true rfl) dX1_fillAhead_20 ?_
      obtain ⟨hg, hF⟩ := ok_g hF
      refine p_iald (isA_in hg) (inb_in hg) dX1_fillAhead_23 ?_
      obtain ⟨hg, hF⟩ := ok_g hF
      refine p_iast (isA_in hg) (inb_in hg) dX1_fillAhead_24 ?_
      refine p_iinc (w := 1) (by decide) rfl (Nat.le_of_ble_eq_true rfl) rfl dX1_fillAhead_25 ?_
      refine p_goto (tgt := 6) dX1_fillAhead_28 (by decide) ?_
      exact p_lv [0, 1, 2, 3] rfl (ih _ _ _ _ _ hF)
theorem tX1_fillAhead {d : Nat} (hd : 1 ≤ d) {Q : Option Value → Hp → Prop} {a1 : Nat} {a2 : Int32} {a3 : Nat} {sg : Hp} (hF : ok jV (fX1_fillAhead a1 a2 a3 sg) Q) : pw tC d mX1_fillAhead 0 (lv_args 0 [.ref a1, .int a2, .ref a3]) [] sg Q := by
  unfold fX1_fillAhead at hF
  obtain ⟨d, rfl⟩ : ∃ e, d = e + 1 := ⟨d - 1, by omega⟩
  show pw _ _ _ _ [(0, .ref a1), (1, .int a2), (2, .ref a3)] [] _ _
  refine p_aload_n rfl dX1_fillAhead_0 ?_
  refine p_iconst (v := 0) (by decide) dX1_fillAhead_1 ?_
  refine p_iconst (v := 0) (by decide) dX1_fillAhead_2 ?_
  obtain ⟨hg, hF⟩ := ok_g hF
  refine p_iast (isA_in hg) (inb_in hg) dX1_fillAhead_3 ?_
  refine p_iconst (v := 1) (by decide) dX1_fillAhead_4 ?_
  refine p_istore_n (Nat.le_of_ble_eq_true rfl) rfl dX1_fillAhead_5 ?_
  refine p_lv [0, 1, 2, 3] rfl (l_X1_fillAhead_6 ?_ 200 _ _ _ _ _ hF)
  intro s2 hF
  exact p_vret rfl dX1_fillAhead_31 (ok_r (j := jV) hF)
theorem l_X1_fillOut_22 {d : Nat} {Q : Option Value → Hp → Prop} {k55 : Nat → Nat → Nat → Int32 → Int32 → Hp → Option (Unit × Hp)} (hk55 : ∀ (z0 : Nat) (z1 : Nat) (z2 : Nat) (z3 : Int32) (z4 : Int32) (s2 : Hp), ok jV (k55 z0 z1 z2 z3 z4 s2) Q → pw tC (d + 1) mX1_fillOut 55 [(0, .ref z0), (1, .ref z1), (2, .ref z2), (3, .int z3), (4, .int z4)] [] s2 Q) : ∀ (n : Nat) (v0 : Nat) (v1 : Nat) (v2 : Nat) (v3 : Int32) (v4 : Int32) (v5 : Int32) (sg : Hp), ok jV (L_X1_fillOut_22 k55 n v0 v1 v2 v3 v4 v5 sg) Q → pw tC (d + 1) mX1_fillOut 22 [(0, .ref v0), (1, .ref v1), (2, .ref v2), (3, .int v3), (4, .int v4), (5, .int v5)] [] sg Q := by
  intro n
  induction n with
  | zero =>
    intro v0 v1 v2 v3 v4 v5 sg hF
    obtain ⟨_, _, h9, _⟩ := hF
    cases h9
  | succ n ih =>
    intro v0 v1 v2 v3 v4 v5 sg hF
    refine p_iload rfl dX1_fillOut_22 ?_
    refine p_bipush (v := 40) (by decide) dX1_fillOut_24 ?_
    refine p_iload_n rfl dX1_fillOut_26 ?_
    refine p_isub dX1_fillOut_27 ?_
    refine p_icmp_gt (tgt := 55) dX1_fillOut_28 (by decide) (fun hc => ?_) (fun hc => ?_)
    · have hF := ok_t hc hF
      exact p_lv [0, 1, 2, 3, 4] rfl (hk55 _ _ _ _ _ _ hF)
    · have hF := ok_f hc hF
      refine p_iload rfl dX1_fillOut_31 ?_
      refine p_aload_n rfl dX1_fillOut_33 ?_
      refine p_iload_n rfl dX1_fillOut_34 ?_
      refine p_iload rfl dX1_fillOut_35 ?_
      refine p_iadd dX1_fillOut_37 ?_
      obtain ⟨hg, hF⟩ := ok_g hF
      refine p_iald (isA_in hg) (inb_in hg) dX1_fillOut_38 ?_
      refine p_aload_n rfl dX1_fillOut_39 ?_
      refine p_iload rfl dX1_fillOut_40 ?_
      obtain ⟨hg, hF⟩ := ok_g hF
      refine p_iald (isA_in hg) (inb_in hg) dX1_fillOut_42 ?_
      refine p_isub dX1_fillOut_43 ?_
      refine p_max wd_429 wd_430 wd_77 wd_431 (Nat.le_of_ble_eq_true rfl) dX1_fillOut_44 ?_
      refine p_istore (Nat.le_of_ble_eq_true rfl) rfl dX1_fillOut_47 ?_
      refine p_iinc (w := 1) (by decide) rfl (Nat.le_of_ble_eq_true rfl) rfl dX1_fillOut_49 ?_
      refine p_goto (tgt := 22) dX1_fillOut_52 (by decide) ?_
      exact p_lv [0, 1, 2, 3, 4, 5] rfl (ih _ _ _ _ _ _ _ hF)
theorem l_X1_fillOut_6 {d : Nat} {Q : Option Value → Hp → Prop} {k66 : Hp → Option (Unit × Hp)} (hk66 : ∀ (s2 : Hp), ok jV (k66 s2) Q → pw tC (d + 1) mX1_fillOut 66 [] [] s2 Q) : ∀ (n : Nat) (v0 : Nat) (v1 : Nat) (v2 : Nat) (v3 : Int32) (sg : Hp), ok jV (L_X1_fillOut_6 k66 n v0 v1 v2 v3 sg) Q → pw tC (d + 1) mX1_fillOut 6 [(0, .ref v0), (1, .ref v1), (2, .ref v2), (3, .int v3)] [] sg Q := by
  intro n
  induction n with
  | zero =>
    intro v0 v1 v2 v3 sg hF
    obtain ⟨_, _, h9, _⟩ := hF
    cases h9
  | succ n ih =>
    intro v0 v1 v2 v3 sg hF
    refine p_iload_n rfl dX1_fillOut_6 ?_
    refine p_bipush (v := 40) (by decide) dX1_fillOut_7 ?_
    refine p_icmp_gt (tgt := 66) dX1_fillOut_9 (by decide) (fun hc => ?_) (fun hc => ?_)
    · have hF := ok_t hc hF
      exact p_lv [] rfl (hk66 _ hF)
    · have hF := ok_f hc hF
      refine p_aload_n rfl dX1_fillOut_12 ?_
      refine p_iload_n rfl dX1_fillOut_13 ?_
      refine p_iconst (v := 1) (by decide) dX1_fillOut_14 ?_
      refine p_isub dX1_fillOut_15 ?_
      obtain ⟨hg, hF⟩ := ok_g hF
      refine p_iald (isA_in hg) (inb_in hg) dX1_fillOut_16 ?_
      refine p_istore (Nat.le_of_ble_eq_true rfl) rfl dX1_fillOut_17 ?_
      refine p_iconst (v := 0) (by decide) dX1_fillOut_19 ?_
      refine p_istore (Nat.le_of_ble_eq_true rfl) rfl dX1_fillOut_20 ?_
      refine p_lv [0, 1, 2, 3, 4, 5] rfl (l_X1_fillOut_22 ?_ 200 _ _ _ _ _ _ _ hF)
      intro w1_0 w1_1 w1_2 w1_3 w1_4 s2 hF
      refine p_aload_n rfl dX1_fillOut_55 ?_
      refine p_iload_n rfl dX1_fillOut_56 ?_
      refine p_iload rfl dX1_fillOut_57 ?_
      obtain ⟨hg, hF⟩ := ok_g hF
      refine p_iast (isA_in hg) (inb_in hg) dX1_fillOut_59 ?_
      refine p_iinc (w := 1) (by decide) rfl (Nat.le_of_ble_eq_true rfl) rfl dX1_fillOut_60 ?_
      refine p_goto (tgt := 6) dX1_fillOut_63 (by decide) ?_
      exact p_lv [0, 1, 2, 3] rfl (ih _ _ _ _ _ hF)
theorem tX1_fillOut {d : Nat} (hd : 1 ≤ d) {Q : Option Value → Hp → Prop} {a1 : Nat} {a2 : Nat} {a3 : Nat} {sg : Hp} (hF : ok jV (fX1_fillOut a1 a2 a3 sg) Q) : pw tC d mX1_fillOut 0 (lv_args 0 [.ref a1, .ref a2, .ref a3]) [] sg Q := by
  unfold fX1_fillOut at hF
  obtain ⟨d, rfl⟩ : ∃ e, d = e + 1 := ⟨d - 1, by omega⟩
  show pw _ _ _ _ [(0, .ref a1), (1, .ref a2), (2, .ref a3)] [] _ _
  refine p_aload_n rfl dX1_fillOut_0 ?_
  refine p_iconst (v := 0) (by decide) dX1_fillOut_1 ?_
  refine p_iconst (v := 0) (by decide) dX1_fillOut_2 ?_
  obtain ⟨hg, hF⟩ := ok_g hF
  refine p_iast (isA_in hg) (inb_in hg) dX1_fillOut_3 ?_
  refine p_iconst (v := 1) (by decide) dX1_fillOut_4 ?_
  refine p_istore_n (Nat.le_of_ble_eq_true rfl) rfl dX1_fillOut_5 ?_
  refine p_lv [0, 1, 2, 3] rfl (l_X1_fillOut_6 ?_ 200 _ _ _ _ _ hF)
  intro s4 hF
  exact p_vret rfl dX1_fillOut_66 (ok_r (j := jV) hF)
theorem b_X0_workOutAt_192 {d : Nat} (hd : 2 ≤ d) {Q : Option Value → Hp → Prop}   (sg : Hp) (hF : ok jI (B_X0_workOutAt_192   sg) Q) : pw tC (d + 1) mX0_workOutAt 192 [] [] sg Q := by
  unfold B_X0_workOutAt_192 at hF
  refine p_iconst (v := 1) (by decide) dX0_workOutAt_192 ?_
  exact p_zret rfl rfl dX0_workOutAt_193 (ok_r (j := jI) hF)
theorem b_X0_workOutAt_122 {d : Nat} (hd : 2 ≤ d) {Q : Option Value → Hp → Prop}  (v1 : Int32) (v2 : Int32) (v4 : Int32) (sg : Hp) (hF : ok jI (B_X0_workOutAt_122  v1 v2 v4 sg) Q) : pw tC (d + 1) mX0_workOutAt 122 [(0, .ref 2), (1, .int v1), (2, .int v2), (4, .int v4)] [] sg Q := by
  unfold B_X0_workOutAt_122 at hF
  refine p_iload rfl dX0_workOutAt_122 ?_
  refine p_bipush (v := -9) (by decide) dX0_workOutAt_124 ?_
  refine p_icmp_ne (tgt := 131) dX0_workOutAt_126 (by decide) (fun hc => ?_) (fun hc => ?_)
  · have hF := ok_f hc hF
    refine p_aload_n rfl dX0_workOutAt_131 ?_
    refine p_getR (c1 := 17) qF_RX0_42 rfl rfl dX0_workOutAt_132 ?_
    refine p_iload_n rfl dX0_workOutAt_135 ?_
    refine p_iconst (v := 4) (by decide) dX0_workOutAt_136 ?_
    refine p_imul dX0_workOutAt_137 ?_
    refine p_iload_n rfl dX0_workOutAt_138 ?_
    refine p_iadd dX0_workOutAt_139 ?_
    refine p_iload rfl dX0_workOutAt_140 ?_
    obtain ⟨hg, hF⟩ := ok_g hF
    refine p_iast rfl (inb_in hg) dX0_workOutAt_142 ?_
    refine p_aload_n rfl dX0_workOutAt_143 ?_
    refine p_getI qF_RX0_33 rfl rfl dX0_workOutAt_144 ?_
    refine p_iconst (v := 2) (by decide) dX0_workOutAt_147 ?_
    refine p_icmp_ne (tgt := 171) dX0_workOutAt_148 (by decide) (fun hc => ?_) (fun hc => ?_)
    · have hF := ok_f hc hF
      refine p_aload_n rfl dX0_workOutAt_171 ?_
      refine p_iload_n rfl dX0_workOutAt_172 ?_
      refine p_iload_n rfl dX0_workOutAt_173 ?_
      refine p_callV (c0 := 2) (av := [.int _, .int _]) qV_RX0_82 rfl rfl rfl rfl (Nat.le_of_ble_eq_true rfl) (Nat.le_of_ble_eq_true rfl) dX0_workOutAt_174 (tX0_comesAt (ok_b hF)) (fun r0 s14 hF => ?_)
      obtain ⟨r13, rfl, hF⟩ := hF
      refine p_aload_n rfl dX0_workOutAt_177 ?_
      refine p_iload_n rfl dX0_workOutAt_178 ?_
      refine p_iload_n rfl dX0_workOutAt_179 ?_
      refine p_callV (c0 := 2) (av := [.int _, .int _]) qV_RX0_116 rfl rfl rfl rfl (Nat.le_of_ble_eq_true rfl) (Nat.le_of_ble_eq_true rfl) dX0_workOutAt_180 (tX0_hasAt (ok_b hF)) (fun r0 s16 hF => ?_)
      obtain ⟨r15, rfl, hF⟩ := hF
      refine p_aload_n rfl dX0_workOutAt_183 ?_
      refine p_iload_n rfl dX0_workOutAt_184 ?_
      refine p_iload_n rfl dX0_workOutAt_185 ?_
      refine p_callV (c0 := 2) (av := [.int _, .int _]) qV_RX0_127 rfl rfl rfl rfl (Nat.le_of_ble_eq_true rfl) (Nat.le_of_ble_eq_true rfl) dX0_workOutAt_186 (tX0_goesOnFrom (ok_b hF)) (fun r0 s18 hF => ?_)
      obtain ⟨r17, rfl, hF⟩ := hF
      refine p_callS (av := [.ref _, .ref _, .ref _]) qS_RX0_134 rfl (Nat.le_of_ble_eq_true rfl) (Nat.le_of_ble_eq_true rfl) dX0_workOutAt_189 (tX1_fillOut (by omega) (ok_b hF)) (fun r0 s20 hF => ?_)
      obtain ⟨r19, rfl, hF⟩ := hF
      exact p_lv [] rfl (b_X0_workOutAt_192 hd  _ hF)
    · have hF := ok_t hc hF
      refine p_aload_n rfl dX0_workOutAt_151 ?_
      refine p_iload_n rfl dX0_workOutAt_152 ?_
      refine p_iload_n rfl dX0_workOutAt_153 ?_
      refine p_callV (c0 := 2) (av := [.int _, .int _]) qV_RX0_82 rfl rfl rfl rfl (Nat.le_of_ble_eq_true rfl) (Nat.le_of_ble_eq_true rfl) dX0_workOutAt_154 (tX0_comesAt (ok_b hF)) (fun r0 s22 hF => ?_)
      obtain ⟨r21, rfl, hF⟩ := hF
      refine p_iload rfl dX0_workOutAt_157 ?_
      refine p_aload_n rfl dX0_workOutAt_159 ?_
      refine p_iload_n rfl dX0_workOutAt_160 ?_
      refine p_iload_n rfl dX0_workOutAt_161 ?_
      refine p_callV (c0 := 2) (av := [.int _, .int _]) qV_RX0_127 rfl rfl rfl rfl (Nat.le_of_ble_eq_true rfl) (Nat.le_of_ble_eq_true rfl) dX0_workOutAt_162 (tX0_goesOnFrom (ok_b hF)) (fun r0 s24 hF => ?_)
      obtain ⟨r23, rfl, hF⟩ := hF
      refine p_callS (av := [.ref _, .int _, .ref _]) qS_RX0_130 rfl (Nat.le_of_ble_eq_true rfl) (Nat.le_of_ble_eq_true rfl) dX0_workOutAt_165 (tX1_fillAhead (by omega) (ok_b hF)) (fun r0 s26 hF => ?_)
      obtain ⟨r25, rfl, hF⟩ := hF
      refine p_goto (tgt := 192) dX0_workOutAt_168 (by decide) ?_
      exact p_lv [] rfl (b_X0_workOutAt_192 hd  _ hF)
  · have hF := ok_t hc hF
    refine p_iconst (v := 0) (by decide) dX0_workOutAt_129 ?_
    exact p_zret rfl rfl dX0_workOutAt_130 (ok_r (j := jI) hF)
theorem b_X0_workOutAt_80 {d : Nat} (hd : 2 ≤ d) {Q : Option Value → Hp → Prop}  (v1 : Int32) (v2 : Int32) (v3 : Int32) (vk0 : Int32) (vk1 : Int32) (sg : Hp) (hF : ok jI (B_X0_workOutAt_80  v1 v2 v3 vk0 vk1 sg) Q) : pw tC (d + 1) mX0_workOutAt 80 [(0, .ref 2), (1, .int v1), (2, .int v2), (3, .int v3)] [.int vk0, .int vk1, .ref 2] sg Q := by
  unfold B_X0_workOutAt_80 at hF
  refine p_iload_n rfl dX0_workOutAt_80 ?_
  refine p_callV (c0 := 2) (av := [.int _, .int _, .int _]) qV_RX0_112 rfl rfl rfl rfl (Nat.le_of_ble_eq_true rfl) (Nat.le_of_ble_eq_true rfl) dX0_workOutAt_81 (tX0_sumComing (by omega) (ok_b hF)) (fun r0 s2 hF => ?_)
  obtain ⟨r1, rfl, hF⟩ := hF
  refine p_aload_n rfl dX0_workOutAt_84 ?_
  refine p_getR (c1 := 11) qF_RX0_17 rfl rfl dX0_workOutAt_85 ?_
  refine p_iload_n rfl dX0_workOutAt_88 ?_
  obtain ⟨hg, hF⟩ := ok_g hF
  refine p_aald rfl (inb_in hg) dX0_workOutAt_89 ?_
  refine p_aload_n rfl dX0_workOutAt_90 ?_
  refine p_getR (c1 := 20) qF_RX0_51 rfl rfl dX0_workOutAt_91 ?_
  refine p_aload_n rfl dX0_workOutAt_94 ?_
  refine p_iload_n rfl dX0_workOutAt_95 ?_
  refine p_iload_n rfl dX0_workOutAt_96 ?_
  refine p_callV (c0 := 2) (av := [.int _, .int _]) qV_RX0_116 rfl rfl rfl rfl (Nat.le_of_ble_eq_true rfl) (Nat.le_of_ble_eq_true rfl) dX0_workOutAt_97 (tX0_hasAt (ok_b hF)) (fun r0 s4 hF => ?_)
  obtain ⟨r3, rfl, hF⟩ := hF
  refine p_callS (av := [.ref _, .ref 20, .ref _]) qS_RX0_123 rfl (Nat.le_of_ble_eq_true rfl) (Nat.le_of_ble_eq_true rfl) dX0_workOutAt_100 (tX1_fillLeft (by omega) (ok_b hF)) (fun r0 s6 hF => ?_)
  obtain ⟨r5, rfl, hF⟩ := hF
  refine p_aload_n rfl dX0_workOutAt_103 ?_
  refine p_iload_n rfl dX0_workOutAt_104 ?_
  refine p_iload_n rfl dX0_workOutAt_105 ?_
  refine p_callV (c0 := 2) (av := [.int _, .int _]) qV_RX0_82 rfl rfl rfl rfl (Nat.le_of_ble_eq_true rfl) (Nat.le_of_ble_eq_true rfl) dX0_workOutAt_106 (tX0_comesAt (ok_b hF)) (fun r0 s8 hF => ?_)
  obtain ⟨r7, rfl, hF⟩ := hF
  refine p_aload_n rfl dX0_workOutAt_109 ?_
  refine p_iload_n rfl dX0_workOutAt_110 ?_
  refine p_iload_n rfl dX0_workOutAt_111 ?_
  refine p_callV (c0 := 2) (av := [.int _, .int _]) qV_RX0_116 rfl rfl rfl rfl (Nat.le_of_ble_eq_true rfl) (Nat.le_of_ble_eq_true rfl) dX0_workOutAt_112 (tX0_hasAt (ok_b hF)) (fun r0 s10 hF => ?_)
  obtain ⟨r9, rfl, hF⟩ := hF
  refine p_bipush (v := 20) (by decide) dX0_workOutAt_115 ?_
  refine p_callS (av := [.ref _, .ref _, .int _]) qS_RX0_119 rfl (Nat.le_of_ble_eq_true rfl) (Nat.le_of_ble_eq_true rfl) dX0_workOutAt_117 (tX1_longestWait (by omega) (ok_b hF)) (fun r0 s12 hF => ?_)
  obtain ⟨r11, rfl, hF⟩ := hF
  refine p_istore (Nat.le_of_ble_eq_true rfl) rfl dX0_workOutAt_120 ?_
  exact p_lv [0, 1, 2, 4] rfl (b_X0_workOutAt_122 hd  _ _ _ _ hF)
theorem tX0_workOutAt {d : Nat} (hd : 3 ≤ d) {Q : Option Value → Hp → Prop} {a1 : Int32} {a2 : Int32} {sg : Hp} (hF : ok jI (fX0_workOutAt a1 a2 sg) Q) : pw tC d mX0_workOutAt 0 (lv_args 0 [.ref 2, .int a1, .int a2]) [] sg Q := by
  unfold fX0_workOutAt at hF
  obtain ⟨d, rfl⟩ : ∃ e, d = e + 1 := ⟨d - 1, by omega⟩
  have hd : 2 ≤ d := by omega
  show pw _ _ _ _ [(0, .ref 2), (1, .int a1), (2, .int a2)] [] _ _
  refine p_aload_n rfl dX0_workOutAt_0 ?_
  refine p_getR (c1 := 14) qF_RX0_26 rfl rfl dX0_workOutAt_1 ?_
  refine p_iload_n rfl dX0_workOutAt_4 ?_
  obtain ⟨hg, hF⟩ := ok_g hF
  refine p_aald rfl (inb_in hg) dX0_workOutAt_5 ?_
  refine p_iload_n rfl dX0_workOutAt_6 ?_
  obtain ⟨hg, hF⟩ := ok_g hF
  refine p_iald (isA_in hg) (inb_in hg) dX0_workOutAt_7 ?_
  refine p_istore_n (Nat.le_of_ble_eq_true rfl) rfl dX0_workOutAt_8 ?_
  refine p_aload_n rfl dX0_workOutAt_9 ?_
  refine p_getI qF_RX0_33 rfl rfl dX0_workOutAt_10 ?_
  refine p_iconst (v := 2) (by decide) dX0_workOutAt_13 ?_
  refine p_icmp_ne (tgt := 63) dX0_workOutAt_14 (by decide) (fun hc => ?_) (fun hc => ?_)
  · have hF := ok_f hc hF
    refine p_aload_n rfl dX0_workOutAt_63 ?_
    refine p_iload_n rfl dX0_workOutAt_64 ?_
    refine p_aload_n rfl dX0_workOutAt_65 ?_
    refine p_getI qF_RX0_33 rfl rfl dX0_workOutAt_66 ?_
    refine p_if_ne (tgt := 76) dX0_workOutAt_69 (by decide) (fun hc => ?_) (fun hc => ?_)
    · have hF := ok_f hc hF
      refine p_aload_n rfl dX0_workOutAt_76 ?_
      refine p_getI qF_RX0_29 rfl rfl dX0_workOutAt_77 ?_
      exact p_lv [0, 1, 2, 3] rfl (b_X0_workOutAt_80 hd  _ _ _ _ _ _ hF)
    · have hF := ok_t hc hF
      refine p_iload_n rfl dX0_workOutAt_72 ?_
      refine p_goto (tgt := 80) dX0_workOutAt_73 (by decide) ?_
      exact p_lv [0, 1, 2, 3] rfl (b_X0_workOutAt_80 hd  _ _ _ _ _ _ hF)
  · have hF := ok_t hc hF
    refine p_aload_n rfl dX0_workOutAt_17 ?_
    refine p_iload_n rfl dX0_workOutAt_18 ?_
    refine p_aload_n rfl dX0_workOutAt_19 ?_
    refine p_getI qF_RX0_29 rfl rfl dX0_workOutAt_20 ?_
    refine p_bipush (v := -9) (by decide) dX0_workOutAt_23 ?_
    refine p_callV (c0 := 2) (av := [.int _, .int _, .int _]) qV_RX0_112 rfl rfl rfl rfl (Nat.le_of_ble_eq_true rfl) (Nat.le_of_ble_eq_true rfl) dX0_workOutAt_25 (tX0_sumComing (by omega) (ok_b hF)) (fun r0 s28 hF => ?_)
    obtain ⟨r27, rfl, hF⟩ := hF
    refine p_aload_n rfl dX0_workOutAt_28 ?_
    refine p_getR (c1 := 11) qF_RX0_17 rfl rfl dX0_workOutAt_29 ?_
    refine p_iload_n rfl dX0_workOutAt_32 ?_
    obtain ⟨hg, hF⟩ := ok_g hF
    refine p_aald rfl (inb_in hg) dX0_workOutAt_33 ?_
    refine p_aload_n rfl dX0_workOutAt_34 ?_
    refine p_iload_n rfl dX0_workOutAt_35 ?_
    refine p_iload_n rfl dX0_workOutAt_36 ?_
    refine p_callV (c0 := 2) (av := [.int _, .int _]) qV_RX0_116 rfl rfl rfl rfl (Nat.le_of_ble_eq_true rfl) (Nat.le_of_ble_eq_true rfl) dX0_workOutAt_37 (tX0_hasAt (ok_b hF)) (fun r0 s30 hF => ?_)
    obtain ⟨r29, rfl, hF⟩ := hF
    refine p_callS (av := [.ref _, .ref _]) qS_RX0_70 rfl (Nat.le_of_ble_eq_true rfl) (Nat.le_of_ble_eq_true rfl) dX0_workOutAt_40 (tX1_fillSame (by omega) (ok_b hF)) (fun r0 s32 hF => ?_)
    obtain ⟨r31, rfl, hF⟩ := hF
    refine p_aload_n rfl dX0_workOutAt_43 ?_
    refine p_getR (c1 := 20) qF_RX0_51 rfl rfl dX0_workOutAt_44 ?_
    refine p_aload_n rfl dX0_workOutAt_47 ?_
    refine p_getR (c1 := 11) qF_RX0_17 rfl rfl dX0_workOutAt_48 ?_
    refine p_iload_n rfl dX0_workOutAt_51 ?_
    obtain ⟨hg, hF⟩ := ok_g hF
    refine p_aald rfl (inb_in hg) dX0_workOutAt_52 ?_
    refine p_bipush (v := 20) (by decide) dX0_workOutAt_53 ?_
    refine p_callS (av := [.ref 20, .ref _, .int _]) qS_RX0_119 rfl (Nat.le_of_ble_eq_true rfl) (Nat.le_of_ble_eq_true rfl) dX0_workOutAt_55 (tX1_longestWait (by omega) (ok_b hF)) (fun r0 s34 hF => ?_)
    obtain ⟨r33, rfl, hF⟩ := hF
    refine p_istore (Nat.le_of_ble_eq_true rfl) rfl dX0_workOutAt_58 ?_
    refine p_goto (tgt := 122) dX0_workOutAt_60 (by decide) ?_
    exact p_lv [0, 1, 2, 4] rfl (b_X0_workOutAt_122 hd  _ _ _ _ hF)
theorem b_X0_workOut_45 {d : Nat} (hd : 3 ≤ d) {Q : Option Value → Hp → Prop} {k10 : Int32 → Int32 → Hp → Option (Int32 × Hp)} (hk10 : ∀ (z1 : Int32) (z2 : Int32) (s2 : Hp), ok jI (k10 z1 z2 s2) Q → pw tC (d + 1) mX0_workOut 10 [(0, .ref 2), (1, .int z1), (2, .int z2)] [] s2 Q) (v1 : Int32) (v2 : Int32) (sg : Hp) (hF : ok jI (B_X0_workOut_45 k10 v1 v2 sg) Q) : pw tC (d + 1) mX0_workOut 45 [(0, .ref 2), (1, .int v1), (2, .int v2)] [] sg Q := by
  unfold B_X0_workOut_45 at hF
  refine p_iinc (w := 1) (by decide) rfl (Nat.le_of_ble_eq_true rfl) rfl dX0_workOut_45 ?_
  refine p_goto (tgt := 10) dX0_workOut_48 (by decide) ?_
  exact p_lv [0, 1, 2] rfl (hk10 _ _ _ hF)
theorem l_X0_workOut_10 {d : Nat} (hd : 3 ≤ d) {Q : Option Value → Hp → Prop} {k51 : Int32 → Hp → Option (Int32 × Hp)} (hk51 : ∀ (z1 : Int32) (s2 : Hp), ok jI (k51 z1 s2) Q → pw tC (d + 1) mX0_workOut 51 [(0, .ref 2), (1, .int z1)] [] s2 Q) {k43 : Hp → Option (Int32 × Hp)} (hk43 : ∀ (s2 : Hp), ok jI (k43 s2) Q → pw tC (d + 1) mX0_workOut 43 [] [] s2 Q) : ∀ (n : Nat) (v1 : Int32) (v2 : Int32) (sg : Hp), ok jI (L_X0_workOut_10 k51 k43 n v1 v2 sg) Q → pw tC (d + 1) mX0_workOut 10 [(0, .ref 2), (1, .int v1), (2, .int v2)] [] sg Q := by
  intro n
  induction n with
  | zero =>
    intro v1 v2 sg hF
    obtain ⟨_, _, h9, _⟩ := hF
    cases h9
  | succ n ih =>
    intro v1 v2 sg hF
    refine p_iload_n rfl dX0_workOut_10 ?_
    refine p_aload_n rfl dX0_workOut_11 ?_
    refine p_getI qF_RX0_29 rfl rfl dX0_workOut_12 ?_
    refine p_icmp_ge (tgt := 51) dX0_workOut_15 (by decide) (fun hc => ?_) (fun hc => ?_)
    · have hF := ok_t hc hF
      exact p_lv [0, 1] rfl (hk51 _ _ hF)
    · have hF := ok_f hc hF
      refine p_aload_n rfl dX0_workOut_18 ?_
      refine p_iload_n rfl dX0_workOut_19 ?_
      refine p_aload_n rfl dX0_workOut_20 ?_
      refine p_getR (c1 := 19) qF_RX0_48 rfl rfl dX0_workOut_21 ?_
      refine p_iload_n rfl dX0_workOut_24 ?_
      obtain ⟨hg, hF⟩ := ok_g hF
      refine p_iald rfl (inb_in hg) dX0_workOut_25 ?_
      refine p_callV (c0 := 2) (av := [.int _, .int _]) qV_RX0_104 rfl rfl rfl rfl (Nat.le_of_ble_eq_true rfl) (Nat.le_of_ble_eq_true rfl) dX0_workOut_26 (tX0_placeOn (ok_b hF)) (fun r0 s2 hF => ?_)
      obtain ⟨r1, rfl, hF⟩ := hF
      refine p_istore_n (Nat.le_of_ble_eq_true rfl) rfl dX0_workOut_29 ?_
      refine p_iload_n rfl dX0_workOut_30 ?_
      refine p_if_lt (tgt := 45) dX0_workOut_31 (by decide) (fun hc => ?_) (fun hc => ?_)
      · have hF := ok_t hc hF
        exact p_lv [0, 1, 2] rfl (b_X0_workOut_45 hd ih _ _ _ hF)
      · have hF := ok_f hc hF
        refine p_aload_n rfl dX0_workOut_34 ?_
        refine p_iload_n rfl dX0_workOut_35 ?_
        refine p_iload_n rfl dX0_workOut_36 ?_
        refine p_callV (c0 := 2) (av := [.int _, .int _]) qV_RX0_108 rfl rfl rfl rfl (Nat.le_of_ble_eq_true rfl) (Nat.le_of_ble_eq_true rfl) dX0_workOut_37 (tX0_workOutAt (by omega) (ok_b hF)) (fun r0 s4 hF => ?_)
        obtain ⟨r3, rfl, hF⟩ := hF
        refine p_if_ne (tgt := 45) dX0_workOut_40 (by decide) (fun hc => ?_) (fun hc => ?_)
        · have hF := ok_f hc hF
          exact p_lv [0, 1, 2] rfl (b_X0_workOut_45 hd ih _ _ _ hF)
        · have hF := ok_t hc hF
          exact p_lv [] rfl (hk43 _ hF)
theorem l_X0_workOut_2 {d : Nat} (hd : 3 ≤ d) {Q : Option Value → Hp → Prop} {k57 : Hp → Option (Int32 × Hp)} (hk57 : ∀ (s2 : Hp), ok jI (k57 s2) Q → pw tC (d + 1) mX0_workOut 57 [] [] s2 Q) {k43 : Hp → Option (Int32 × Hp)} (hk43 : ∀ (s2 : Hp), ok jI (k43 s2) Q → pw tC (d + 1) mX0_workOut 43 [] [] s2 Q) : ∀ (n : Nat) (v1 : Int32) (sg : Hp), ok jI (L_X0_workOut_2 k57 k43 n v1 sg) Q → pw tC (d + 1) mX0_workOut 2 [(0, .ref 2), (1, .int v1)] [] sg Q := by
  intro n
  induction n with
  | zero =>
    intro v1 sg hF
    obtain ⟨_, _, h9, _⟩ := hF
    cases h9
  | succ n ih =>
    intro v1 sg hF
    refine p_iload_n rfl dX0_workOut_2 ?_
    refine p_bipush (v := 6) (by decide) dX0_workOut_3 ?_
    refine p_icmp_ge (tgt := 57) dX0_workOut_5 (by decide) (fun hc => ?_) (fun hc => ?_)
    · have hF := ok_t hc hF
      exact p_lv [] rfl (hk57 _ hF)
    · have hF := ok_f hc hF
      refine p_iconst (v := 0) (by decide) dX0_workOut_8 ?_
      refine p_istore_n (Nat.le_of_ble_eq_true rfl) rfl dX0_workOut_9 ?_
      refine p_lv [0, 1, 2] rfl (l_X0_workOut_10 hd ?_ hk43 200 _ _ _ hF)
      intro w5_1 s6 hF
      refine p_iinc (w := 1) (by decide) rfl (Nat.le_of_ble_eq_true rfl) rfl dX0_workOut_51 ?_
      refine p_goto (tgt := 2) dX0_workOut_54 (by decide) ?_
      exact p_lv [0, 1] rfl (ih _ _ hF)
theorem tX0_workOut {d : Nat} (hd : 4 ≤ d) {Q : Option Value → Hp → Prop}  {sg : Hp} (hF : ok jI (fX0_workOut  sg) Q) : pw tC d mX0_workOut 0 (lv_args 0 [.ref 2]) [] sg Q := by
  unfold fX0_workOut at hF
  obtain ⟨d, rfl⟩ : ∃ e, d = e + 1 := ⟨d - 1, by omega⟩
  have hd : 3 ≤ d := by omega
  show pw _ _ _ _ [(0, .ref 2)] [] _ _
  refine p_iconst (v := 0) (by decide) dX0_workOut_0 ?_
  refine p_istore_n (Nat.le_of_ble_eq_true rfl) rfl dX0_workOut_1 ?_
  refine p_lv [0, 1] rfl (l_X0_workOut_2 hd ?_ ?_ 200 _ _ hF)
  · intro s8 hF
    refine p_iconst (v := 1) (by decide) dX0_workOut_57 ?_
    exact p_zret rfl rfl dX0_workOut_58 (ok_r (j := jI) hF)
  · intro s10 hF
    refine p_iconst (v := 0) (by decide) dX0_workOut_43 ?_
    exact p_zret rfl rfl dX0_workOut_44 (ok_r (j := jI) hF)
theorem b_X0_isBounded_44 {d : Nat} (hd : 4 ≤ d) {Q : Option Value → Hp → Prop}   (sg : Hp) (hF : ok jI (B_X0_isBounded_44   sg) Q) : pw tC (d + 1) mX0_isBounded 44 [(0, .ref 2)] [] sg Q := by
  unfold B_X0_isBounded_44 at hF
  refine p_aload_n rfl dX0_isBounded_44 ?_
  refine p_getI qF_RX0_61 rfl rfl dX0_isBounded_45 ?_
  obtain ⟨hg, hF⟩ := ok_g hF
  exact p_zret rfl (b01_n hg).1 dX0_isBounded_48 (ok_r (j := jI) hF)
theorem b_X0_isBounded_36 {d : Nat} (hd : 4 ≤ d) {Q : Option Value → Hp → Prop}  (vk0 : Int32) (sg : Hp) (hF : ok jI (B_X0_isBounded_36  vk0 sg) Q) : pw tC (d + 1) mX0_isBounded 36 [(0, .ref 2)] [.int vk0, .ref 2] sg Q := by
  unfold B_X0_isBounded_36 at hF
  obtain ⟨hg, hF⟩ := ok_g hF
  refine p_put qF_RX0_61 qP_0_15 rfl rfl (b01_n hg).1 (b01_n hg).2 dX0_isBounded_36 ?_
  refine p_aload_n rfl dX0_isBounded_39 ?_
  refine p_iconst (v := 1) (by decide) dX0_isBounded_40 ?_
  obtain ⟨hg, hF⟩ := ok_g hF
  refine p_put qF_RX0_57 qP_0_14 rfl rfl (b01_n hg).1 (b01_n hg).2 dX0_isBounded_41 ?_
  exact p_lv [0] rfl (b_X0_isBounded_44 hd  _ hF)
theorem b_X0_isBounded_35 {d : Nat} (hd : 4 ≤ d) {Q : Option Value → Hp → Prop}   (sg : Hp) (hF : ok jI (B_X0_isBounded_35   sg) Q) : pw tC (d + 1) mX0_isBounded 35 [(0, .ref 2)] [.ref 2] sg Q := by
  unfold B_X0_isBounded_35 at hF
  refine p_iconst (v := 0) (by decide) dX0_isBounded_35 ?_
  exact p_lv [0] rfl (b_X0_isBounded_36 hd  _ _ hF)
theorem tX0_isBounded {d : Nat} (hd : 5 ≤ d) {Q : Option Value → Hp → Prop}  {sg : Hp} (hF : ok jI (fX0_isBounded  sg) Q) : pw tC d mX0_isBounded 0 (lv_args 0 [.ref 2]) [] sg Q := by
  unfold fX0_isBounded at hF
  obtain ⟨d, rfl⟩ : ∃ e, d = e + 1 := ⟨d - 1, by omega⟩
  have hd : 4 ≤ d := by omega
  show pw _ _ _ _ [(0, .ref 2)] [] _ _
  refine p_aload_n rfl dX0_isBounded_0 ?_
  refine p_getI qF_RX0_57 rfl rfl dX0_isBounded_1 ?_
  refine p_if_ne (tgt := 44) dX0_isBounded_4 (by decide) (fun hc => ?_) (fun hc => ?_)
  · have hF := ok_f hc hF
    exact p_lv [0] rfl (b_X0_isBounded_44 hd  _ hF)
  · have hF := ok_t hc hF
    refine p_aload_n rfl dX0_isBounded_7 ?_
    refine p_aload_n rfl dX0_isBounded_8 ?_
    refine p_callV (c0 := 2) (av := []) qV_RX0_90 rfl rfl rfl rfl (Nat.le_of_ble_eq_true rfl) (Nat.le_of_ble_eq_true rfl) dX0_isBounded_9 (tX0_orderNodes (by omega) (ok_b hF)) (fun r0 s2 hF => ?_)
    obtain ⟨r1, rfl, hF⟩ := hF
    refine p_bipush (v := 6) (by decide) dX0_isBounded_12 ?_
    refine p_icmp_ne (tgt := 35) dX0_isBounded_14 (by decide) (fun hc => ?_) (fun hc => ?_)
    · have hF := ok_f hc hF
      exact p_lv [0] rfl (b_X0_isBounded_35 hd  _ hF)
    · have hF := ok_t hc hF
      refine p_aload_n rfl dX0_isBounded_17 ?_
      refine p_callV (c0 := 2) (av := []) qV_RX0_97 rfl rfl rfl rfl (Nat.le_of_ble_eq_true rfl) (Nat.le_of_ble_eq_true rfl) dX0_isBounded_18 (tX0_isServedOnWays (ok_b hF)) (fun r0 s4 hF => ?_)
      obtain ⟨r3, rfl, hF⟩ := hF
      refine p_if_eq (tgt := 35) dX0_isBounded_21 (by decide) (fun hc => ?_) (fun hc => ?_)
      · have hF := ok_t hc hF
        exact p_lv [0] rfl (b_X0_isBounded_35 hd  _ hF)
      · have hF := ok_f hc hF
        refine p_aload_n rfl dX0_isBounded_24 ?_
        refine p_callV (c0 := 2) (av := []) qV_RX0_101 rfl rfl rfl rfl (Nat.le_of_ble_eq_true rfl) (Nat.le_of_ble_eq_true rfl) dX0_isBounded_25 (tX0_workOut (by omega) (ok_b hF)) (fun r0 s6 hF => ?_)
        obtain ⟨r5, rfl, hF⟩ := hF
        refine p_if_eq (tgt := 35) dX0_isBounded_28 (by decide) (fun hc => ?_) (fun hc => ?_)
        · have hF := ok_t hc hF
          exact p_lv [0] rfl (b_X0_isBounded_35 hd  _ hF)
        · have hF := ok_f hc hF
          refine p_iconst (v := 1) (by decide) dX0_isBounded_31 ?_
          refine p_goto (tgt := 36) dX0_isBounded_32 (by decide) ?_
          exact p_lv [0] rfl (b_X0_isBounded_36 hd  _ _ hF)
theorem tX0_latestAt {d : Nat} {Q : Option Value → Hp → Prop} {a1 : Int32} {a2 : Int32} {sg : Hp} (hF : ok jI (fX0_latestAt a1 a2 sg) Q) : pw tC d mX0_latestAt 0 (lv_args 0 [.ref 2, .int a1, .int a2]) [] sg Q := by
  unfold fX0_latestAt at hF
  show pw _ _ _ _ [(0, .ref 2), (1, .int a1), (2, .int a2)] [] _ _
  refine p_aload_n rfl dX0_latestAt_0 ?_
  refine p_getR (c1 := 17) qF_RX0_42 rfl rfl dX0_latestAt_1 ?_
  refine p_iload_n rfl dX0_latestAt_4 ?_
  refine p_iconst (v := 4) (by decide) dX0_latestAt_5 ?_
  refine p_imul dX0_latestAt_6 ?_
  refine p_iload_n rfl dX0_latestAt_7 ?_
  refine p_iadd dX0_latestAt_8 ?_
  obtain ⟨hg, hF⟩ := ok_g hF
  refine p_iald rfl (inb_in hg) dX0_latestAt_9 ?_
  exact p_iret rfl dX0_latestAt_10 (ok_r (j := jI) hF)
theorem l_X1_greatestHeap_4 {d : Nat} {Q : Option Value → Hp → Prop} {k28 : Int32 → Hp → Option (Int32 × Hp)} (hk28 : ∀ (z2 : Int32) (s2 : Hp), ok jI (k28 z2 s2) Q → pw tC (d + 1) mX1_greatestHeap 28 [(2, .int z2)] [] s2 Q) : ∀ (n : Nat) (v0 : Nat) (v1 : Nat) (v2 : Int32) (v3 : Int32) (sg : Hp), ok jI (L_X1_greatestHeap_4 k28 n v0 v1 v2 v3 sg) Q → pw tC (d + 1) mX1_greatestHeap 4 [(0, .ref v0), (1, .ref v1), (2, .int v2), (3, .int v3)] [] sg Q := by
  intro n
  induction n with
  | zero =>
    intro v0 v1 v2 v3 sg hF
    obtain ⟨_, _, h9, _⟩ := hF
    cases h9
  | succ n ih =>
    intro v0 v1 v2 v3 sg hF
    refine p_iload_n rfl dX1_greatestHeap_4 ?_
    refine p_bipush (v := 40) (by decide) dX1_greatestHeap_5 ?_
    refine p_icmp_gt (tgt := 28) dX1_greatestHeap_7 (by decide) (fun hc => ?_) (fun hc => ?_)
    · have hF := ok_t hc hF
      exact p_lv [2] rfl (hk28 _ _ hF)
    · have hF := ok_f hc hF
      refine p_iload_n rfl dX1_greatestHeap_10 ?_
      refine p_aload_n rfl dX1_greatestHeap_11 ?_
      refine p_iload_n rfl dX1_greatestHeap_12 ?_
      obtain ⟨hg, hF⟩ := ok_g hF
      refine p_iald (isA_in hg) (inb_in hg) dX1_greatestHeap_13 ?_
      refine p_aload_n rfl dX1_greatestHeap_14 ?_
      refine p_iload_n rfl dX1_greatestHeap_15 ?_
      obtain ⟨hg, hF⟩ := ok_g hF
      refine p_iald (isA_in hg) (inb_in hg) dX1_greatestHeap_16 ?_
      refine p_isub dX1_greatestHeap_17 ?_
      refine p_max wd_429 wd_430 wd_77 wd_431 (Nat.le_of_ble_eq_true rfl) dX1_greatestHeap_18 ?_
      refine p_istore_n (Nat.le_of_ble_eq_true rfl) rfl dX1_greatestHeap_21 ?_
      refine p_iinc (w := 1) (by decide) rfl (Nat.le_of_ble_eq_true rfl) rfl dX1_greatestHeap_22 ?_
      refine p_goto (tgt := 4) dX1_greatestHeap_25 (by decide) ?_
      exact p_lv [0, 1, 2, 3] rfl (ih _ _ _ _ _ hF)
theorem tX1_greatestHeap {d : Nat} (hd : 1 ≤ d) {Q : Option Value → Hp → Prop} {a1 : Nat} {a2 : Nat} {sg : Hp} (hF : ok jI (fX1_greatestHeap a1 a2 sg) Q) : pw tC d mX1_greatestHeap 0 (lv_args 0 [.ref a1, .ref a2]) [] sg Q := by
  unfold fX1_greatestHeap at hF
  obtain ⟨d, rfl⟩ : ∃ e, d = e + 1 := ⟨d - 1, by omega⟩
  show pw _ _ _ _ [(0, .ref a1), (1, .ref a2)] [] _ _
  refine p_iconst (v := 0) (by decide) dX1_greatestHeap_0 ?_
  refine p_istore_n (Nat.le_of_ble_eq_true rfl) rfl dX1_greatestHeap_1 ?_
  refine p_iconst (v := 0) (by decide) dX1_greatestHeap_2 ?_
  refine p_istore_n (Nat.le_of_ble_eq_true rfl) rfl dX1_greatestHeap_3 ?_
  refine p_lv [0, 1, 2, 3] rfl (l_X1_greatestHeap_4 ?_ 200 _ _ _ _ _ hF)
  intro w1_2 s2 hF
  refine p_iload_n rfl dX1_greatestHeap_28 ?_
  exact p_iret rfl dX1_greatestHeap_29 (ok_r (j := jI) hF)
theorem tX0_greatestHeapIn {d : Nat} (hd : 3 ≤ d) {Q : Option Value → Hp → Prop} {a1 : Int32} {sg : Hp} (hF : ok jI (fX0_greatestHeapIn a1 sg) Q) : pw tC d mX0_greatestHeapIn 0 (lv_args 0 [.ref 2, .int a1]) [] sg Q := by
  unfold fX0_greatestHeapIn at hF
  obtain ⟨d, rfl⟩ : ∃ e, d = e + 1 := ⟨d - 1, by omega⟩
  have hd : 2 ≤ d := by omega
  show pw _ _ _ _ [(0, .ref 2), (1, .int a1)] [] _ _
  refine p_aload_n rfl dX0_greatestHeapIn_0 ?_
  refine p_iload_n rfl dX0_greatestHeapIn_1 ?_
  refine p_aload_n rfl dX0_greatestHeapIn_2 ?_
  refine p_getI qF_RX0_29 rfl rfl dX0_greatestHeapIn_3 ?_
  refine p_bipush (v := -9) (by decide) dX0_greatestHeapIn_6 ?_
  refine p_callV (c0 := 2) (av := [.int _, .int _, .int _]) qV_RX0_112 rfl rfl rfl rfl (Nat.le_of_ble_eq_true rfl) (Nat.le_of_ble_eq_true rfl) dX0_greatestHeapIn_8 (tX0_sumComing (by omega) (ok_b hF)) (fun r0 s2 hF => ?_)
  obtain ⟨r1, rfl, hF⟩ := hF
  refine p_aload_n rfl dX0_greatestHeapIn_11 ?_
  refine p_getR (c1 := 20) qF_RX0_51 rfl rfl dX0_greatestHeapIn_12 ?_
  refine p_aload_n rfl dX0_greatestHeapIn_15 ?_
  refine p_getR (c1 := 11) qF_RX0_17 rfl rfl dX0_greatestHeapIn_16 ?_
  refine p_iload_n rfl dX0_greatestHeapIn_19 ?_
  obtain ⟨hg, hF⟩ := ok_g hF
  refine p_aald rfl (inb_in hg) dX0_greatestHeapIn_20 ?_
  refine p_callS (av := [.ref 20, .ref _]) qS_RX0_140 rfl (Nat.le_of_ble_eq_true rfl) (Nat.le_of_ble_eq_true rfl) dX0_greatestHeapIn_21 (tX1_greatestHeap (by omega) (ok_b hF)) (fun r0 s4 hF => ?_)
  obtain ⟨r3, rfl, hF⟩ := hF
  exact p_iret rfl dX0_greatestHeapIn_24 (ok_r (j := jI) hF)
theorem l_X0_waitByNodes_4 {d : Nat} {Q : Option Value → Hp → Prop} {k29 : Int32 → Hp → Option (Int32 × Hp)} (hk29 : ∀ (z2 : Int32) (s2 : Hp), ok jI (k29 z2 s2) Q → pw tC (d + 1) mX0_waitByNodes 29 [(2, .int z2)] [] s2 Q) : ∀ (n : Nat) (v1 : Int32) (v2 : Int32) (v3 : Int32) (sg : Hp), ok jI (L_X0_waitByNodes_4 k29 n v1 v2 v3 sg) Q → pw tC (d + 1) mX0_waitByNodes 4 [(0, .ref 2), (1, .int v1), (2, .int v2), (3, .int v3)] [] sg Q := by
  intro n
  induction n with
  | zero =>
    intro v1 v2 v3 sg hF
    obtain ⟨_, _, h9, _⟩ := hF
    cases h9
  | succ n ih =>
    intro v1 v2 v3 sg hF
    refine p_iload_n rfl dX0_waitByNodes_4 ?_
    refine p_aload_n rfl dX0_waitByNodes_5 ?_
    refine p_getR (c1 := 13) qF_RX0_23 rfl rfl dX0_waitByNodes_6 ?_
    refine p_iload_n rfl dX0_waitByNodes_9 ?_
    obtain ⟨hg, hF⟩ := ok_g hF
    refine p_iald rfl (inb_in hg) dX0_waitByNodes_10 ?_
    refine p_icmp_ge (tgt := 29) dX0_waitByNodes_11 (by decide) (fun hc => ?_) (fun hc => ?_)
    · have hF := ok_t hc hF
      exact p_lv [2] rfl (hk29 _ _ hF)
    · have hF := ok_f hc hF
      refine p_iload_n rfl dX0_waitByNodes_14 ?_
      refine p_aload_n rfl dX0_waitByNodes_15 ?_
      refine p_iload_n rfl dX0_waitByNodes_16 ?_
      refine p_iload_n rfl dX0_waitByNodes_17 ?_
      refine p_callV (c0 := 2) (av := [.int _, .int _]) qV_RX0_144 rfl rfl rfl rfl (Nat.le_of_ble_eq_true rfl) (Nat.le_of_ble_eq_true rfl) dX0_waitByNodes_18 (tX0_latestAt (ok_b hF)) (fun r0 s2 hF => ?_)
      obtain ⟨r1, rfl, hF⟩ := hF
      refine p_iadd dX0_waitByNodes_21 ?_
      refine p_istore_n (Nat.le_of_ble_eq_true rfl) rfl dX0_waitByNodes_22 ?_
      refine p_iinc (w := 1) (by decide) rfl (Nat.le_of_ble_eq_true rfl) rfl dX0_waitByNodes_23 ?_
      refine p_goto (tgt := 4) dX0_waitByNodes_26 (by decide) ?_
      exact p_lv [0, 1, 2, 3] rfl (ih _ _ _ _ hF)
theorem tX0_waitByNodes {d : Nat} (hd : 1 ≤ d) {Q : Option Value → Hp → Prop} {a1 : Int32} {sg : Hp} (hF : ok jI (fX0_waitByNodes a1 sg) Q) : pw tC d mX0_waitByNodes 0 (lv_args 0 [.ref 2, .int a1]) [] sg Q := by
  unfold fX0_waitByNodes at hF
  obtain ⟨d, rfl⟩ : ∃ e, d = e + 1 := ⟨d - 1, by omega⟩
  show pw _ _ _ _ [(0, .ref 2), (1, .int a1)] [] _ _
  refine p_iconst (v := 0) (by decide) dX0_waitByNodes_0 ?_
  refine p_istore_n (Nat.le_of_ble_eq_true rfl) rfl dX0_waitByNodes_1 ?_
  refine p_iconst (v := 0) (by decide) dX0_waitByNodes_2 ?_
  refine p_istore_n (Nat.le_of_ble_eq_true rfl) rfl dX0_waitByNodes_3 ?_
  refine p_lv [0, 1, 2, 3] rfl (l_X0_waitByNodes_4 ?_ 200 _ _ _ _ hF)
  intro w3_2 s4 hF
  refine p_iload_n rfl dX0_waitByNodes_29 ?_
  exact p_iret rfl dX0_waitByNodes_30 (ok_r (j := jI) hF)
theorem l_X1_fillAlong_15 {d : Nat} {Q : Option Value → Hp → Prop} {k45 : Nat → Nat → Nat → Int32 → Int32 → Hp → Option (Unit × Hp)} (hk45 : ∀ (z0 : Nat) (z1 : Nat) (z2 : Nat) (z3 : Int32) (z4 : Int32) (s2 : Hp), ok jV (k45 z0 z1 z2 z3 z4 s2) Q → pw tC (d + 1) mX1_fillAlong 45 [(0, .ref z0), (1, .ref z1), (2, .ref z2), (3, .int z3), (4, .int z4)] [] s2 Q) : ∀ (n : Nat) (v0 : Nat) (v1 : Nat) (v2 : Nat) (v3 : Int32) (v4 : Int32) (v5 : Int32) (sg : Hp), ok jV (L_X1_fillAlong_15 k45 n v0 v1 v2 v3 v4 v5 sg) Q → pw tC (d + 1) mX1_fillAlong 15 [(0, .ref v0), (1, .ref v1), (2, .ref v2), (3, .int v3), (4, .int v4), (5, .int v5)] [] sg Q := by
  intro n
  induction n with
  | zero =>
    intro v0 v1 v2 v3 v4 v5 sg hF
    obtain ⟨_, _, h9, _⟩ := hF
    cases h9
  | succ n ih =>
    intro v0 v1 v2 v3 v4 v5 sg hF
    refine p_iload rfl dX1_fillAlong_15 ?_
    refine p_iload_n rfl dX1_fillAlong_17 ?_
    refine p_icmp_gt (tgt := 45) dX1_fillAlong_18 (by decide) (fun hc => ?_) (fun hc => ?_)
    · have hF := ok_t hc hF
      exact p_lv [0, 1, 2, 3, 4] rfl (hk45 _ _ _ _ _ _ hF)
    · have hF := ok_f hc hF
      refine p_iload rfl dX1_fillAlong_21 ?_
      refine p_aload_n rfl dX1_fillAlong_23 ?_
      refine p_iload rfl dX1_fillAlong_24 ?_
      obtain ⟨hg, hF⟩ := ok_g hF
      refine p_iald (isA_in hg) (inb_in hg) dX1_fillAlong_26 ?_
      refine p_aload_n rfl dX1_fillAlong_27 ?_
      refine p_iload_n rfl dX1_fillAlong_28 ?_
      refine p_iload rfl dX1_fillAlong_29 ?_
      refine p_isub dX1_fillAlong_31 ?_
      obtain ⟨hg, hF⟩ := ok_g hF
      refine p_iald (isA_in hg) (inb_in hg) dX1_fillAlong_32 ?_
      refine p_iadd dX1_fillAlong_33 ?_
      refine p_min wd_319 wd_320 wd_77 wd_321 (Nat.le_of_ble_eq_true rfl) dX1_fillAlong_34 ?_
      refine p_istore (Nat.le_of_ble_eq_true rfl) rfl dX1_fillAlong_37 ?_
      refine p_iinc (w := 1) (by decide) rfl (Nat.le_of_ble_eq_true rfl) rfl dX1_fillAlong_39 ?_
      refine p_goto (tgt := 15) dX1_fillAlong_42 (by decide) ?_
      exact p_lv [0, 1, 2, 3, 4, 5] rfl (ih _ _ _ _ _ _ _ hF)
theorem l_X1_fillAlong_2 {d : Nat} {Q : Option Value → Hp → Prop} {k56 : Hp → Option (Unit × Hp)} (hk56 : ∀ (s2 : Hp), ok jV (k56 s2) Q → pw tC (d + 1) mX1_fillAlong 56 [] [] s2 Q) : ∀ (n : Nat) (v0 : Nat) (v1 : Nat) (v2 : Nat) (v3 : Int32) (sg : Hp), ok jV (L_X1_fillAlong_2 k56 n v0 v1 v2 v3 sg) Q → pw tC (d + 1) mX1_fillAlong 2 [(0, .ref v0), (1, .ref v1), (2, .ref v2), (3, .int v3)] [] sg Q := by
  intro n
  induction n with
  | zero =>
    intro v0 v1 v2 v3 sg hF
    obtain ⟨_, _, h9, _⟩ := hF
    cases h9
  | succ n ih =>
    intro v0 v1 v2 v3 sg hF
    refine p_iload_n rfl dX1_fillAlong_2 ?_
    refine p_bipush (v := 40) (by decide) dX1_fillAlong_3 ?_
    refine p_icmp_gt (tgt := 56) dX1_fillAlong_5 (by decide) (fun hc => ?_) (fun hc => ?_)
    · have hF := ok_t hc hF
      exact p_lv [] rfl (hk56 _ hF)
    · have hF := ok_f hc hF
      refine p_ldc wd_322 dX1_fillAlong_8 ?_
      refine p_istore (Nat.le_of_ble_eq_true rfl) rfl dX1_fillAlong_10 ?_
      refine p_iconst (v := 0) (by decide) dX1_fillAlong_12 ?_
      refine p_istore (Nat.le_of_ble_eq_true rfl) rfl dX1_fillAlong_13 ?_
      refine p_lv [0, 1, 2, 3, 4, 5] rfl (l_X1_fillAlong_15 ?_ 200 _ _ _ _ _ _ _ hF)
      intro w1_0 w1_1 w1_2 w1_3 w1_4 s2 hF
      refine p_aload_n rfl dX1_fillAlong_45 ?_
      refine p_iload_n rfl dX1_fillAlong_46 ?_
      refine p_iload rfl dX1_fillAlong_47 ?_
      obtain ⟨hg, hF⟩ := ok_g hF
      refine p_iast (isA_in hg) (inb_in hg) dX1_fillAlong_49 ?_
      refine p_iinc (w := 1) (by decide) rfl (Nat.le_of_ble_eq_true rfl) rfl dX1_fillAlong_50 ?_
      refine p_goto (tgt := 2) dX1_fillAlong_53 (by decide) ?_
      exact p_lv [0, 1, 2, 3] rfl (ih _ _ _ _ _ hF)
theorem tX1_fillAlong {d : Nat} (hd : 1 ≤ d) {Q : Option Value → Hp → Prop} {a1 : Nat} {a2 : Nat} {a3 : Nat} {sg : Hp} (hF : ok jV (fX1_fillAlong a1 a2 a3 sg) Q) : pw tC d mX1_fillAlong 0 (lv_args 0 [.ref a1, .ref a2, .ref a3]) [] sg Q := by
  unfold fX1_fillAlong at hF
  obtain ⟨d, rfl⟩ : ∃ e, d = e + 1 := ⟨d - 1, by omega⟩
  show pw _ _ _ _ [(0, .ref a1), (1, .ref a2), (2, .ref a3)] [] _ _
  refine p_iconst (v := 0) (by decide) dX1_fillAlong_0 ?_
  refine p_istore_n (Nat.le_of_ble_eq_true rfl) rfl dX1_fillAlong_1 ?_
  refine p_lv [0, 1, 2, 3] rfl (l_X1_fillAlong_2 ?_ 200 _ _ _ _ _ hF)
  intro s4 hF
  exact p_vret rfl dX1_fillAlong_56 (ok_r (j := jV) hF)
theorem l_X0_waitAtOnce_15 {d : Nat} (hd : 1 ≤ d) {Q : Option Value → Hp → Prop} {k59 : Int32 → Hp → Option (Int32 × Hp)} (hk59 : ∀ (z1 : Int32) (s2 : Hp), ok jI (k59 z1 s2) Q → pw tC (d + 1) mX0_waitAtOnce 59 [(0, .ref 2), (1, .int z1)] [] s2 Q) : ∀ (n : Nat) (v1 : Int32) (v2 : Int32) (sg : Hp), ok jI (L_X0_waitAtOnce_15 k59 n v1 v2 sg) Q → pw tC (d + 1) mX0_waitAtOnce 15 [(0, .ref 2), (1, .int v1), (2, .int v2)] [] sg Q := by
  intro n
  induction n with
  | zero =>
    intro v1 v2 sg hF
    obtain ⟨_, _, h9, _⟩ := hF
    cases h9
  | succ n ih =>
    intro v1 v2 sg hF
    refine p_iload_n rfl dX0_waitAtOnce_15 ?_
    refine p_aload_n rfl dX0_waitAtOnce_16 ?_
    refine p_getR (c1 := 13) qF_RX0_23 rfl rfl dX0_waitAtOnce_17 ?_
    refine p_iload_n rfl dX0_waitAtOnce_20 ?_
    obtain ⟨hg, hF⟩ := ok_g hF
    refine p_iald rfl (inb_in hg) dX0_waitAtOnce_21 ?_
    refine p_icmp_ge (tgt := 59) dX0_waitAtOnce_22 (by decide) (fun hc => ?_) (fun hc => ?_)
    · have hF := ok_t hc hF
      exact p_lv [0, 1] rfl (hk59 _ _ hF)
    · have hF := ok_f hc hF
      refine p_aload_n rfl dX0_waitAtOnce_25 ?_
      refine p_getR (c1 := 21) qF_RX0_54 rfl rfl dX0_waitAtOnce_26 ?_
      refine p_aload_n rfl dX0_waitAtOnce_29 ?_
      refine p_iload_n rfl dX0_waitAtOnce_30 ?_
      refine p_iload_n rfl dX0_waitAtOnce_31 ?_
      refine p_callV (c0 := 2) (av := [.int _, .int _]) qV_RX0_116 rfl rfl rfl rfl (Nat.le_of_ble_eq_true rfl) (Nat.le_of_ble_eq_true rfl) dX0_waitAtOnce_32 (tX0_hasAt (ok_b hF)) (fun r0 s6 hF => ?_)
      obtain ⟨r5, rfl, hF⟩ := hF
      refine p_aload_n rfl dX0_waitAtOnce_35 ?_
      refine p_getR (c1 := 20) qF_RX0_51 rfl rfl dX0_waitAtOnce_36 ?_
      refine p_callS (av := [.ref 21, .ref _, .ref 20]) qS_RX0_147 rfl (Nat.le_of_ble_eq_true rfl) (Nat.le_of_ble_eq_true rfl) dX0_waitAtOnce_39 (tX1_fillAlong (by omega) (ok_b hF)) (fun r0 s8 hF => ?_)
      obtain ⟨r7, rfl, hF⟩ := hF
      refine p_aload_n rfl dX0_waitAtOnce_42 ?_
      refine p_getR (c1 := 20) qF_RX0_51 rfl rfl dX0_waitAtOnce_43 ?_
      refine p_aload_n rfl dX0_waitAtOnce_46 ?_
      refine p_getR (c1 := 21) qF_RX0_54 rfl rfl dX0_waitAtOnce_47 ?_
      refine p_callS (av := [.ref 20, .ref 21]) qS_RX0_70 rfl (Nat.le_of_ble_eq_true rfl) (Nat.le_of_ble_eq_true rfl) dX0_waitAtOnce_50 (tX1_fillSame (by omega) (ok_b hF)) (fun r0 s10 hF => ?_)
      obtain ⟨r9, rfl, hF⟩ := hF
      refine p_iinc (w := 1) (by decide) rfl (Nat.le_of_ble_eq_true rfl) rfl dX0_waitAtOnce_53 ?_
      refine p_goto (tgt := 15) dX0_waitAtOnce_56 (by decide) ?_
      exact p_lv [0, 1, 2] rfl (ih _ _ _ hF)
theorem tX0_waitAtOnce {d : Nat} (hd : 2 ≤ d) {Q : Option Value → Hp → Prop} {a1 : Int32} {sg : Hp} (hF : ok jI (fX0_waitAtOnce a1 sg) Q) : pw tC d mX0_waitAtOnce 0 (lv_args 0 [.ref 2, .int a1]) [] sg Q := by
  unfold fX0_waitAtOnce at hF
  obtain ⟨d, rfl⟩ : ∃ e, d = e + 1 := ⟨d - 1, by omega⟩
  have hd : 1 ≤ d := by omega
  show pw _ _ _ _ [(0, .ref 2), (1, .int a1)] [] _ _
  refine p_aload_n rfl dX0_waitAtOnce_0 ?_
  refine p_iload_n rfl dX0_waitAtOnce_1 ?_
  refine p_iconst (v := 0) (by decide) dX0_waitAtOnce_2 ?_
  refine p_callV (c0 := 2) (av := [.int _, .int _]) qV_RX0_116 rfl rfl rfl rfl (Nat.le_of_ble_eq_true rfl) (Nat.le_of_ble_eq_true rfl) dX0_waitAtOnce_3 (tX0_hasAt (ok_b hF)) (fun r0 s2 hF => ?_)
  obtain ⟨r1, rfl, hF⟩ := hF
  refine p_aload_n rfl dX0_waitAtOnce_6 ?_
  refine p_getR (c1 := 21) qF_RX0_54 rfl rfl dX0_waitAtOnce_7 ?_
  refine p_callS (av := [.ref _, .ref 21]) qS_RX0_70 rfl (Nat.le_of_ble_eq_true rfl) (Nat.le_of_ble_eq_true rfl) dX0_waitAtOnce_10 (tX1_fillSame (by omega) (ok_b hF)) (fun r0 s4 hF => ?_)
  obtain ⟨r3, rfl, hF⟩ := hF
  refine p_iconst (v := 1) (by decide) dX0_waitAtOnce_13 ?_
  refine p_istore_n (Nat.le_of_ble_eq_true rfl) rfl dX0_waitAtOnce_14 ?_
  refine p_lv [0, 1, 2] rfl (l_X0_waitAtOnce_15 hd ?_ 200 _ _ _ hF)
  intro w11_1 s12 hF
  refine p_aload_n rfl dX0_waitAtOnce_59 ?_
  refine p_iload_n rfl dX0_waitAtOnce_60 ?_
  refine p_iconst (v := 0) (by decide) dX0_waitAtOnce_61 ?_
  refine p_callV (c0 := 2) (av := [.int _, .int _]) qV_RX0_82 rfl rfl rfl rfl (Nat.le_of_ble_eq_true rfl) (Nat.le_of_ble_eq_true rfl) dX0_waitAtOnce_62 (tX0_comesAt (ok_b hF)) (fun r0 s14 hF => ?_)
  obtain ⟨r13, rfl, hF⟩ := hF
  refine p_aload_n rfl dX0_waitAtOnce_65 ?_
  refine p_getR (c1 := 21) qF_RX0_54 rfl rfl dX0_waitAtOnce_66 ?_
  refine p_bipush (v := 20) (by decide) dX0_waitAtOnce_69 ?_
  refine p_callS (av := [.ref _, .ref 21, .int _]) qS_RX0_119 rfl (Nat.le_of_ble_eq_true rfl) (Nat.le_of_ble_eq_true rfl) dX0_waitAtOnce_71 (tX1_longestWait (by omega) (ok_b hF)) (fun r0 s16 hF => ?_)
  obtain ⟨r15, rfl, hF⟩ := hF
  exact p_iret rfl dX0_waitAtOnce_74 (ok_r (j := jI) hF)
theorem l_X1_fillSteps_6 {d : Nat} {Q : Option Value → Hp → Prop} {k41 : Hp → Option (Unit × Hp)} (hk41 : ∀ (s2 : Hp), ok jV (k41 s2) Q → pw tC (d + 1) mX1_fillSteps 41 [] [] s2 Q) : ∀ (n : Nat) (v0 : Nat) (v1 : Int32) (v2 : Nat) (v3 : Int32) (sg : Hp), ok jV (L_X1_fillSteps_6 k41 n v0 v1 v2 v3 sg) Q → pw tC (d + 1) mX1_fillSteps 6 [(0, .ref v0), (1, .int v1), (2, .ref v2), (3, .int v3)] [] sg Q := by
  intro n
  induction n with
  | zero =>
    intro v0 v1 v2 v3 sg hF
    obtain ⟨_, _, h9, _⟩ := hF
    cases h9
  | succ n ih =>
    intro v0 v1 v2 v3 sg hF
    refine p_iload_n rfl dX1_fillSteps_6 ?_
    refine p_bipush (v := 40) (by decide) dX1_fillSteps_7 ?_
    refine p_icmp_gt (tgt := 41) dX1_fillSteps_9 (by decide) (fun hc => ?_) (fun hc => ?_)
    · have hF := ok_t hc hF
      exact p_lv [] rfl (hk41 _ hF)
    · have hF := ok_f hc hF
      refine p_aload_n rfl dX1_fillSteps_12 ?_
      refine p_iload_n rfl dX1_fillSteps_13 ?_
      refine p_aload_n rfl dX1_fillSteps_14 ?_
      refine p_iload_n rfl dX1_fillSteps_15 ?_
      refine p_iconst (v := 1) (by decide) dX1_fillSteps_16 ?_
      refine p_isub dX1_fillSteps_17 ?_
      obtain ⟨hg, hF⟩ := ok_g hF
      refine p_iald (isA_in hg) (inb_in hg) dX1_fillSteps_18 ?_
      refine p_aload_n rfl dX1_fillSteps_19 ?_
      refine p_iload_n rfl dX1_fillSteps_20 ?_
      refine p_iload_n rfl dX1_fillSteps_21 ?_
      refine p_min wd_319 wd_320 wd_77 wd_321 (Nat.le_of_ble_eq_true rfl) dX1_fillSteps_22 ?_
      refine p_iconst (v := 1) (by decide) dX1_fillSteps_25 ?_
      refine p_isub dX1_fillSteps_26 ?_
      obtain ⟨hg, hF⟩ := ok_g hF
      refine p_iald (isA_in hg) (inb_in hg) dX1_fillSteps_27 ?_
      refine p_iadd dX1_fillSteps_28 ?_
      refine p_ldc wd_322 dX1_fillSteps_29 ?_
      refine p_min wd_319 wd_320 wd_77 wd_321 (Nat.le_of_ble_eq_true rfl) dX1_fillSteps_31 ?_
      obtain ⟨hg, hF⟩ := ok_g hF
      refine p_iast (isA_in hg) (inb_in hg) dX1_fillSteps_34 ?_
      refine p_iinc (w := 1) (by decide) rfl (Nat.le_of_ble_eq_true rfl) rfl dX1_fillSteps_35 ?_
      refine p_goto (tgt := 6) dX1_fillSteps_38 (by decide) ?_
      exact p_lv [0, 1, 2, 3] rfl (ih _ _ _ _ _ hF)
theorem tX1_fillSteps {d : Nat} (hd : 1 ≤ d) {Q : Option Value → Hp → Prop} {a1 : Nat} {a2 : Int32} {a3 : Nat} {sg : Hp} (hF : ok jV (fX1_fillSteps a1 a2 a3 sg) Q) : pw tC d mX1_fillSteps 0 (lv_args 0 [.ref a1, .int a2, .ref a3]) [] sg Q := by
  unfold fX1_fillSteps at hF
  obtain ⟨d, rfl⟩ : ∃ e, d = e + 1 := ⟨d - 1, by omega⟩
  show pw _ _ _ _ [(0, .ref a1), (1, .int a2), (2, .ref a3)] [] _ _
  refine p_aload_n rfl dX1_fillSteps_0 ?_
  refine p_iconst (v := 0) (by decide) dX1_fillSteps_1 ?_
  refine p_iconst (v := 0) (by decide) dX1_fillSteps_2 ?_
  obtain ⟨hg, hF⟩ := ok_g hF
  refine p_iast (isA_in hg) (inb_in hg) dX1_fillSteps_3 ?_
  refine p_iconst (v := 1) (by decide) dX1_fillSteps_4 ?_
  refine p_istore_n (Nat.le_of_ble_eq_true rfl) rfl dX1_fillSteps_5 ?_
  refine p_lv [0, 1, 2, 3] rfl (l_X1_fillSteps_6 ?_ 200 _ _ _ _ _ hF)
  intro s2 hF
  exact p_vret rfl dX1_fillSteps_41 (ok_r (j := jV) hF)
theorem l_X1_fillBucket_6 {d : Nat} {Q : Option Value → Hp → Prop} {k31 : Hp → Option (Unit × Hp)} (hk31 : ∀ (s2 : Hp), ok jV (k31 s2) Q → pw tC (d + 1) mX1_fillBucket 31 [] [] s2 Q) : ∀ (n : Nat) (v0 : Int32) (v1 : Int32) (v2 : Nat) (v3 : Int32) (sg : Hp), ok jV (L_X1_fillBucket_6 k31 n v0 v1 v2 v3 sg) Q → pw tC (d + 1) mX1_fillBucket 6 [(0, .int v0), (1, .int v1), (2, .ref v2), (3, .int v3)] [] sg Q := by
  intro n
  induction n with
  | zero =>
    intro v0 v1 v2 v3 sg hF
    obtain ⟨_, _, h9, _⟩ := hF
    cases h9
  | succ n ih =>
    intro v0 v1 v2 v3 sg hF
    refine p_iload_n rfl dX1_fillBucket_6 ?_
    refine p_bipush (v := 40) (by decide) dX1_fillBucket_7 ?_
    refine p_icmp_gt (tgt := 31) dX1_fillBucket_9 (by decide) (fun hc => ?_) (fun hc => ?_)
    · have hF := ok_t hc hF
      exact p_lv [] rfl (hk31 _ hF)
    · have hF := ok_f hc hF
      refine p_aload_n rfl dX1_fillBucket_12 ?_
      refine p_iload_n rfl dX1_fillBucket_13 ?_
      refine p_iload_n rfl dX1_fillBucket_14 ?_
      refine p_iload_n rfl dX1_fillBucket_15 ?_
      refine p_iload_n rfl dX1_fillBucket_16 ?_
      refine p_imul dX1_fillBucket_17 ?_
      refine p_iadd dX1_fillBucket_18 ?_
      refine p_ldc wd_322 dX1_fillBucket_19 ?_
      refine p_min wd_319 wd_320 wd_77 wd_321 (Nat.le_of_ble_eq_true rfl) dX1_fillBucket_21 ?_
      obtain ⟨hg, hF⟩ := ok_g hF
      refine p_iast (isA_in hg) (inb_in hg) dX1_fillBucket_24 ?_
      refine p_iinc (w := 1) (by decide) rfl (Nat.le_of_ble_eq_true rfl) rfl dX1_fillBucket_25 ?_
      refine p_goto (tgt := 6) dX1_fillBucket_28 (by decide) ?_
      exact p_lv [0, 1, 2, 3] rfl (ih _ _ _ _ _ hF)
theorem tX1_fillBucket {d : Nat} (hd : 1 ≤ d) {Q : Option Value → Hp → Prop} {a1 : Int32} {a2 : Int32} {a3 : Nat} {sg : Hp} (hF : ok jV (fX1_fillBucket a1 a2 a3 sg) Q) : pw tC d mX1_fillBucket 0 (lv_args 0 [.int a1, .int a2, .ref a3]) [] sg Q := by
  unfold fX1_fillBucket at hF
  obtain ⟨d, rfl⟩ : ∃ e, d = e + 1 := ⟨d - 1, by omega⟩
  show pw _ _ _ _ [(0, .int a1), (1, .int a2), (2, .ref a3)] [] _ _
  refine p_aload_n rfl dX1_fillBucket_0 ?_
  refine p_iconst (v := 0) (by decide) dX1_fillBucket_1 ?_
  refine p_iconst (v := 0) (by decide) dX1_fillBucket_2 ?_
  obtain ⟨hg, hF⟩ := ok_g hF
  refine p_iast (isA_in hg) (inb_in hg) dX1_fillBucket_3 ?_
  refine p_iconst (v := 1) (by decide) dX1_fillBucket_4 ?_
  refine p_istore_n (Nat.le_of_ble_eq_true rfl) rfl dX1_fillBucket_5 ?_
  refine p_lv [0, 1, 2, 3] rfl (l_X1_fillBucket_6 ?_ 200 _ _ _ _ _ hF)
  intro s2 hF
  exact p_vret rfl dX1_fillBucket_31 (ok_r (j := jV) hF)
theorem b_X1_fillLate_24 {d : Nat} {Q : Option Value → Hp → Prop} {k2 : Int32 → Int32 → Nat → Int32 → Hp → Option (Unit × Hp)} (hk2 : ∀ (z0 : Int32) (z1 : Int32) (z2 : Nat) (z3 : Int32) (s2 : Hp), ok jV (k2 z0 z1 z2 z3 s2) Q → pw tC d mX1_fillLate 2 [(0, .int z0), (1, .int z1), (2, .ref z2), (3, .int z3)] [] s2 Q) (v0 : Int32) (v1 : Int32) (v2 : Nat) (v3 : Int32) (vk0 : Int32) (vk1 : Int32) (vk2 : Nat) (sg : Hp) (hF : ok jV (B_X1_fillLate_24 k2 v0 v1 v2 v3 vk0 vk1 vk2 sg) Q) : pw tC d mX1_fillLate 24 [(0, .int v0), (1, .int v1), (2, .ref v2), (3, .int v3)] [.int vk0, .int vk1, .ref vk2] sg Q := by
  unfold B_X1_fillLate_24 at hF
  obtain ⟨hg, hF⟩ := ok_g hF
  refine p_iast (isA_in hg) (inb_in hg) dX1_fillLate_24 ?_
  refine p_iinc (w := 1) (by decide) rfl (Nat.le_of_ble_eq_true rfl) rfl dX1_fillLate_25 ?_
  refine p_goto (tgt := 2) dX1_fillLate_28 (by decide) ?_
  exact p_lv [0, 1, 2, 3] rfl (hk2 _ _ _ _ _ hF)
theorem l_X1_fillLate_2 {d : Nat} {Q : Option Value → Hp → Prop} {k31 : Hp → Option (Unit × Hp)} (hk31 : ∀ (s2 : Hp), ok jV (k31 s2) Q → pw tC d mX1_fillLate 31 [] [] s2 Q) : ∀ (n : Nat) (v0 : Int32) (v1 : Int32) (v2 : Nat) (v3 : Int32) (sg : Hp), ok jV (L_X1_fillLate_2 k31 n v0 v1 v2 v3 sg) Q → pw tC d mX1_fillLate 2 [(0, .int v0), (1, .int v1), (2, .ref v2), (3, .int v3)] [] sg Q := by
  intro n
  induction n with
  | zero =>
    intro v0 v1 v2 v3 sg hF
    obtain ⟨_, _, h9, _⟩ := hF
    cases h9
  | succ n ih =>
    intro v0 v1 v2 v3 sg hF
    refine p_iload_n rfl dX1_fillLate_2 ?_
    refine p_bipush (v := 40) (by decide) dX1_fillLate_3 ?_
    refine p_icmp_gt (tgt := 31) dX1_fillLate_5 (by decide) (fun hc => ?_) (fun hc => ?_)
    · have hF := ok_t hc hF
      exact p_lv [] rfl (hk31 _ hF)
    · have hF := ok_f hc hF
      refine p_aload_n rfl dX1_fillLate_8 ?_
      refine p_iload_n rfl dX1_fillLate_9 ?_
      refine p_iload_n rfl dX1_fillLate_10 ?_
      refine p_iload_n rfl dX1_fillLate_11 ?_
      refine p_icmp_gt (tgt := 19) dX1_fillLate_12 (by decide) (fun hc => ?_) (fun hc => ?_)
      · have hF := ok_t hc hF
        refine p_iload_n rfl dX1_fillLate_19 ?_
        refine p_iload_n rfl dX1_fillLate_20 ?_
        refine p_iload_n rfl dX1_fillLate_21 ?_
        refine p_isub dX1_fillLate_22 ?_
        refine p_imul dX1_fillLate_23 ?_
        exact p_lv [0, 1, 2, 3] rfl (b_X1_fillLate_24 ih _ _ _ _ _ _ _ _ hF)
      · have hF := ok_f hc hF
        refine p_iconst (v := 0) (by decide) dX1_fillLate_15 ?_
        refine p_goto (tgt := 24) dX1_fillLate_16 (by decide) ?_
        exact p_lv [0, 1, 2, 3] rfl (b_X1_fillLate_24 ih _ _ _ _ _ _ _ _ hF)
theorem tX1_fillLate {d : Nat} {Q : Option Value → Hp → Prop} {a1 : Int32} {a2 : Int32} {a3 : Nat} {sg : Hp} (hF : ok jV (fX1_fillLate a1 a2 a3 sg) Q) : pw tC d mX1_fillLate 0 (lv_args 0 [.int a1, .int a2, .ref a3]) [] sg Q := by
  unfold fX1_fillLate at hF
  show pw _ _ _ _ [(0, .int a1), (1, .int a2), (2, .ref a3)] [] _ _
  refine p_iconst (v := 0) (by decide) dX1_fillLate_0 ?_
  refine p_istore_n (Nat.le_of_ble_eq_true rfl) rfl dX1_fillLate_1 ?_
  refine p_lv [0, 1, 2, 3] rfl (l_X1_fillLate_2 ?_ 200 _ _ _ _ _ hF)
  intro s2 hF
  exact p_vret rfl dX1_fillLate_31 (ok_r (j := jV) hF)
theorem l_X1_fillLeast_2 {d : Nat} {Q : Option Value → Hp → Prop} {k26 : Hp → Option (Unit × Hp)} (hk26 : ∀ (s2 : Hp), ok jV (k26 s2) Q → pw tC (d + 1) mX1_fillLeast 26 [] [] s2 Q) : ∀ (n : Nat) (v0 : Nat) (v1 : Nat) (v2 : Nat) (v3 : Int32) (sg : Hp), ok jV (L_X1_fillLeast_2 k26 n v0 v1 v2 v3 sg) Q → pw tC (d + 1) mX1_fillLeast 2 [(0, .ref v0), (1, .ref v1), (2, .ref v2), (3, .int v3)] [] sg Q := by
  intro n
  induction n with
  | zero =>
    intro v0 v1 v2 v3 sg hF
    obtain ⟨_, _, h9, _⟩ := hF
    cases h9
  | succ n ih =>
    intro v0 v1 v2 v3 sg hF
    refine p_iload_n rfl dX1_fillLeast_2 ?_
    refine p_bipush (v := 40) (by decide) dX1_fillLeast_3 ?_
    refine p_icmp_gt (tgt := 26) dX1_fillLeast_5 (by decide) (fun hc => ?_) (fun hc => ?_)
    · have hF := ok_t hc hF
      exact p_lv [] rfl (hk26 _ hF)
    · have hF := ok_f hc hF
      refine p_aload_n rfl dX1_fillLeast_8 ?_
      refine p_iload_n rfl dX1_fillLeast_9 ?_
      refine p_aload_n rfl dX1_fillLeast_10 ?_
      refine p_iload_n rfl dX1_fillLeast_11 ?_
      obtain ⟨hg, hF⟩ := ok_g hF
      refine p_iald (isA_in hg) (inb_in hg) dX1_fillLeast_12 ?_
      refine p_aload_n rfl dX1_fillLeast_13 ?_
      refine p_iload_n rfl dX1_fillLeast_14 ?_
      obtain ⟨hg, hF⟩ := ok_g hF
      refine p_iald (isA_in hg) (inb_in hg) dX1_fillLeast_15 ?_
      refine p_min wd_319 wd_320 wd_77 wd_321 (Nat.le_of_ble_eq_true rfl) dX1_fillLeast_16 ?_
      obtain ⟨hg, hF⟩ := ok_g hF
      refine p_iast (isA_in hg) (inb_in hg) dX1_fillLeast_19 ?_
      refine p_iinc (w := 1) (by decide) rfl (Nat.le_of_ble_eq_true rfl) rfl dX1_fillLeast_20 ?_
      refine p_goto (tgt := 2) dX1_fillLeast_23 (by decide) ?_
      exact p_lv [0, 1, 2, 3] rfl (ih _ _ _ _ _ hF)
theorem tX1_fillLeast {d : Nat} (hd : 1 ≤ d) {Q : Option Value → Hp → Prop} {a1 : Nat} {a2 : Nat} {a3 : Nat} {sg : Hp} (hF : ok jV (fX1_fillLeast a1 a2 a3 sg) Q) : pw tC d mX1_fillLeast 0 (lv_args 0 [.ref a1, .ref a2, .ref a3]) [] sg Q := by
  unfold fX1_fillLeast at hF
  obtain ⟨d, rfl⟩ : ∃ e, d = e + 1 := ⟨d - 1, by omega⟩
  show pw _ _ _ _ [(0, .ref a1), (1, .ref a2), (2, .ref a3)] [] _ _
  refine p_iconst (v := 0) (by decide) dX1_fillLeast_0 ?_
  refine p_istore_n (Nat.le_of_ble_eq_true rfl) rfl dX1_fillLeast_1 ?_
  refine p_lv [0, 1, 2, 3] rfl (l_X1_fillLeast_2 ?_ 200 _ _ _ _ _ hF)
  intro s2 hF
  exact p_vret rfl dX1_fillLeast_26 (ok_r (j := jV) hF)
theorem b_X1_fillMade_74 {d : Nat} (hd : 1 ≤ d) {Q : Option Value → Hp → Prop}   (sg : Hp) (hF : ok jV (B_X1_fillMade_74   sg) Q) : pw tC (d + 1) mX1_fillMade 74 [] [] sg Q := by
  unfold B_X1_fillMade_74 at hF
  exact p_vret rfl dX1_fillMade_74 (ok_r (j := jV) hF)
theorem tX1_fillMade {d : Nat} (hd : 2 ≤ d) {Q : Option Value → Hp → Prop} {a1 : Int32} {a2 : Nat} {a3 : Nat} {a4 : Nat} {sg : Hp} (hF : ok jV (fX1_fillMade a1 a2 a3 a4 sg) Q) : pw tC d mX1_fillMade 0 (lv_args 0 [.int a1, .ref a2, .ref a3, .ref a4]) [] sg Q := by
  unfold fX1_fillMade at hF
  obtain ⟨d, rfl⟩ : ∃ e, d = e + 1 := ⟨d - 1, by omega⟩
  have hd : 1 ≤ d := by omega
  show pw _ _ _ _ [(0, .int a1), (1, .ref a2), (2, .ref a3), (3, .ref a4)] [] _ _
  refine p_iload_n rfl dX1_fillMade_0 ?_
  by_cases h0 : a1 = 0
  · have hF := ok_t h0 hF
    refine p_tabIn (tgt := 32) dX1_fillMade_1 (by rw [h0]; decide) (by rw [h0]; decide) (by rw [h0]; rfl) (by decide) ?_
    refine p_aload_n rfl dX1_fillMade_32 ?_
    refine p_aload_n rfl dX1_fillMade_33 ?_
    refine p_aload_n rfl dX1_fillMade_34 ?_
    refine p_callS (av := [.ref _, .ref _, .ref _]) qS_RX1_22 rfl (Nat.le_of_ble_eq_true rfl) (Nat.le_of_ble_eq_true rfl) dX1_fillMade_35 (tX1_fillLeast (by omega) (ok_b hF)) (fun r0 s2 hF => ?_)
    obtain ⟨r1, rfl, hF⟩ := hF
    refine p_goto (tgt := 74) dX1_fillMade_38 (by decide) ?_
    exact p_lv [] rfl (b_X1_fillMade_74 hd  _ hF)
  · have hF := ok_f h0 hF
    by_cases h1 : a1 = 1
    · have hF := ok_t h1 hF
      refine p_tabIn (tgt := 41) dX1_fillMade_1 (by rw [h1]; decide) (by rw [h1]; decide) (by rw [h1]; rfl) (by decide) ?_
      refine p_aload_n rfl dX1_fillMade_41 ?_
      refine p_aload_n rfl dX1_fillMade_42 ?_
      refine p_aload_n rfl dX1_fillMade_43 ?_
      refine p_callS (av := [.ref _, .ref _, .ref _]) qS_RX1_28 rfl (Nat.le_of_ble_eq_true rfl) (Nat.le_of_ble_eq_true rfl) dX1_fillMade_44 (tX1_fillSum (by omega) (ok_b hF)) (fun r0 s4 hF => ?_)
      obtain ⟨r3, rfl, hF⟩ := hF
      refine p_goto (tgt := 74) dX1_fillMade_47 (by decide) ?_
      exact p_lv [] rfl (b_X1_fillMade_74 hd  _ hF)
    · have hF := ok_f h1 hF
      by_cases h2 : a1 = 2
      · have hF := ok_t h2 hF
        refine p_tabIn (tgt := 50) dX1_fillMade_1 (by rw [h2]; decide) (by rw [h2]; decide) (by rw [h2]; rfl) (by decide) ?_
        refine p_aload_n rfl dX1_fillMade_50 ?_
        refine p_aload_n rfl dX1_fillMade_51 ?_
        refine p_aload_n rfl dX1_fillMade_52 ?_
        refine p_callS (av := [.ref _, .ref _, .ref _]) qS_RX1_31 rfl (Nat.le_of_ble_eq_true rfl) (Nat.le_of_ble_eq_true rfl) dX1_fillMade_53 (tX1_fillAlong (by omega) (ok_b hF)) (fun r0 s6 hF => ?_)
        obtain ⟨r5, rfl, hF⟩ := hF
        refine p_goto (tgt := 74) dX1_fillMade_56 (by decide) ?_
        exact p_lv [] rfl (b_X1_fillMade_74 hd  _ hF)
      · have hF := ok_f h2 hF
        by_cases h3 : a1 = 3
        · have hF := ok_t h3 hF
          refine p_tabIn (tgt := 59) dX1_fillMade_1 (by rw [h3]; decide) (by rw [h3]; decide) (by rw [h3]; rfl) (by decide) ?_
          refine p_aload_n rfl dX1_fillMade_59 ?_
          refine p_aload_n rfl dX1_fillMade_60 ?_
          refine p_aload_n rfl dX1_fillMade_61 ?_
          refine p_callS (av := [.ref _, .ref _, .ref _]) qS_RX1_34 rfl (Nat.le_of_ble_eq_true rfl) (Nat.le_of_ble_eq_true rfl) dX1_fillMade_62 (tX1_fillOut (by omega) (ok_b hF)) (fun r0 s8 hF => ?_)
          obtain ⟨r7, rfl, hF⟩ := hF
          refine p_goto (tgt := 74) dX1_fillMade_65 (by decide) ?_
          exact p_lv [] rfl (b_X1_fillMade_74 hd  _ hF)
        · have hF := ok_f h3 hF
          refine p_tabOut (tgt := 68) dX1_fillMade_1 (tab_out4 h0 h1 h2 h3) (by decide) ?_
          refine p_aload_n rfl dX1_fillMade_68 ?_
          refine p_aload_n rfl dX1_fillMade_69 ?_
          refine p_aload_n rfl dX1_fillMade_70 ?_
          refine p_callS (av := [.ref _, .ref _, .ref _]) qS_RX1_37 rfl (Nat.le_of_ble_eq_true rfl) (Nat.le_of_ble_eq_true rfl) dX1_fillMade_71 (tX1_fillLeft (by omega) (ok_b hF)) (fun r0 s10 hF => ?_)
          obtain ⟨r9, rfl, hF⟩ := hF
          exact p_lv [] rfl (b_X1_fillMade_74 hd  _ hF)
theorem b_X1_fillHeldBack_24 {d : Nat} {Q : Option Value → Hp → Prop} {k2 : Nat → Int32 → Nat → Int32 → Hp → Option (Unit × Hp)} (hk2 : ∀ (z0 : Nat) (z1 : Int32) (z2 : Nat) (z3 : Int32) (s2 : Hp), ok jV (k2 z0 z1 z2 z3 s2) Q → pw tC d mX1_fillHeldBack 2 [(0, .ref z0), (1, .int z1), (2, .ref z2), (3, .int z3)] [] s2 Q) (v0 : Nat) (v1 : Int32) (v2 : Nat) (v3 : Int32) (vk0 : Int32) (vk1 : Int32) (vk2 : Nat) (sg : Hp) (hF : ok jV (B_X1_fillHeldBack_24 k2 v0 v1 v2 v3 vk0 vk1 vk2 sg) Q) : pw tC d mX1_fillHeldBack 24 [(0, .ref v0), (1, .int v1), (2, .ref v2), (3, .int v3)] [.int vk0, .int vk1, .ref vk2] sg Q := by
  unfold B_X1_fillHeldBack_24 at hF
  obtain ⟨hg, hF⟩ := ok_g hF
  refine p_iast (isA_in hg) (inb_in hg) dX1_fillHeldBack_24 ?_
  refine p_iinc (w := 1) (by decide) rfl (Nat.le_of_ble_eq_true rfl) rfl dX1_fillHeldBack_25 ?_
  refine p_goto (tgt := 2) dX1_fillHeldBack_28 (by decide) ?_
  exact p_lv [0, 1, 2, 3] rfl (hk2 _ _ _ _ _ hF)
theorem l_X1_fillHeldBack_2 {d : Nat} {Q : Option Value → Hp → Prop} {k31 : Hp → Option (Unit × Hp)} (hk31 : ∀ (s2 : Hp), ok jV (k31 s2) Q → pw tC d mX1_fillHeldBack 31 [] [] s2 Q) : ∀ (n : Nat) (v0 : Nat) (v1 : Int32) (v2 : Nat) (v3 : Int32) (sg : Hp), ok jV (L_X1_fillHeldBack_2 k31 n v0 v1 v2 v3 sg) Q → pw tC d mX1_fillHeldBack 2 [(0, .ref v0), (1, .int v1), (2, .ref v2), (3, .int v3)] [] sg Q := by
  intro n
  induction n with
  | zero =>
    intro v0 v1 v2 v3 sg hF
    obtain ⟨_, _, h9, _⟩ := hF
    cases h9
  | succ n ih =>
    intro v0 v1 v2 v3 sg hF
    refine p_iload_n rfl dX1_fillHeldBack_2 ?_
    refine p_bipush (v := 40) (by decide) dX1_fillHeldBack_3 ?_
    refine p_icmp_gt (tgt := 31) dX1_fillHeldBack_5 (by decide) (fun hc => ?_) (fun hc => ?_)
    · have hF := ok_t hc hF
      exact p_lv [] rfl (hk31 _ hF)
    · have hF := ok_f hc hF
      refine p_aload_n rfl dX1_fillHeldBack_8 ?_
      refine p_iload_n rfl dX1_fillHeldBack_9 ?_
      refine p_iload_n rfl dX1_fillHeldBack_10 ?_
      refine p_iload_n rfl dX1_fillHeldBack_11 ?_
      refine p_icmp_ge (tgt := 19) dX1_fillHeldBack_12 (by decide) (fun hc => ?_) (fun hc => ?_)
      · have hF := ok_t hc hF
        refine p_aload_n rfl dX1_fillHeldBack_19 ?_
        refine p_iload_n rfl dX1_fillHeldBack_20 ?_
        refine p_iload_n rfl dX1_fillHeldBack_21 ?_
        refine p_isub dX1_fillHeldBack_22 ?_
        obtain ⟨hg, hF⟩ := ok_g hF
        refine p_iald (isA_in hg) (inb_in hg) dX1_fillHeldBack_23 ?_
        exact p_lv [0, 1, 2, 3] rfl (b_X1_fillHeldBack_24 ih _ _ _ _ _ _ _ _ hF)
      · have hF := ok_f hc hF
        refine p_iconst (v := 0) (by decide) dX1_fillHeldBack_15 ?_
        refine p_goto (tgt := 24) dX1_fillHeldBack_16 (by decide) ?_
        exact p_lv [0, 1, 2, 3] rfl (b_X1_fillHeldBack_24 ih _ _ _ _ _ _ _ _ hF)
theorem tX1_fillHeldBack {d : Nat} {Q : Option Value → Hp → Prop} {a1 : Nat} {a2 : Int32} {a3 : Nat} {sg : Hp} (hF : ok jV (fX1_fillHeldBack a1 a2 a3 sg) Q) : pw tC d mX1_fillHeldBack 0 (lv_args 0 [.ref a1, .int a2, .ref a3]) [] sg Q := by
  unfold fX1_fillHeldBack at hF
  show pw _ _ _ _ [(0, .ref a1), (1, .int a2), (2, .ref a3)] [] _ _
  refine p_iconst (v := 0) (by decide) dX1_fillHeldBack_0 ?_
  refine p_istore_n (Nat.le_of_ble_eq_true rfl) rfl dX1_fillHeldBack_1 ?_
  refine p_lv [0, 1, 2, 3] rfl (l_X1_fillHeldBack_2 ?_ 200 _ _ _ _ _ hF)
  intro s2 hF
  exact p_vret rfl dX1_fillHeldBack_31 (ok_r (j := jV) hF)
theorem b_X2_replaceBy_47 {d : Nat} {Q : Option Value → Hp → Prop} {k14 : Nat → Int32 → Int32 → Hp → Option (Unit × Hp)} (hk14 : ∀ (z1 : Nat) (z2 : Int32) (z3 : Int32) (s2 : Hp), ok jV (k14 z1 z2 z3 s2) Q → pw tC d mX2_replaceBy 14 [(0, .ref 3), (1, .ref z1), (2, .int z2), (3, .int z3)] [] s2 Q) (v1 : Nat) (v2 : Int32) (v3 : Int32) (vk0 : Int32) (vk1 : Int32) (vk2 : Int32) (sg : Hp) (hF : ok jV (B_X2_replaceBy_47 k14 v1 v2 v3 vk0 vk1 vk2 sg) Q) : pw tC d mX2_replaceBy 47 [(0, .ref 3), (1, .ref v1), (2, .int v2), (3, .int v3)] [.int vk0, .int vk1, .int vk2, .ref 22] sg Q := by
  unfold B_X2_replaceBy_47 at hF
  refine p_iadd dX2_replaceBy_47 ?_
  obtain ⟨hg, hF⟩ := ok_g hF
  refine p_iast rfl (inb_in hg) dX2_replaceBy_48 ?_
  refine p_iinc (w := 1) (by decide) rfl (Nat.le_of_ble_eq_true rfl) rfl dX2_replaceBy_49 ?_
  refine p_goto (tgt := 14) dX2_replaceBy_52 (by decide) ?_
  exact p_lv [0, 1, 2, 3] rfl (hk14 _ _ _ _ hF)
theorem l_X2_replaceBy_14 {d : Nat} {Q : Option Value → Hp → Prop} {k55 : Hp → Option (Unit × Hp)} (hk55 : ∀ (s2 : Hp), ok jV (k55 s2) Q → pw tC d mX2_replaceBy 55 [] [] s2 Q) : ∀ (n : Nat) (v1 : Nat) (v2 : Int32) (v3 : Int32) (sg : Hp), ok jV (L_X2_replaceBy_14 k55 n v1 v2 v3 sg) Q → pw tC d mX2_replaceBy 14 [(0, .ref 3), (1, .ref v1), (2, .int v2), (3, .int v3)] [] sg Q := by
  intro n
  induction n with
  | zero =>
    intro v1 v2 v3 sg hF
    obtain ⟨_, _, h9, _⟩ := hF
    cases h9
  | succ n ih =>
    intro v1 v2 v3 sg hF
    refine p_iload_n rfl dX2_replaceBy_14 ?_
    refine p_bipush (v := 40) (by decide) dX2_replaceBy_15 ?_
    refine p_icmp_gt (tgt := 55) dX2_replaceBy_17 (by decide) (fun hc => ?_) (fun hc => ?_)
    · have hF := ok_t hc hF
      exact p_lv [] rfl (hk55 _ hF)
    · have hF := ok_f hc hF
      refine p_aload_n rfl dX2_replaceBy_20 ?_
      refine p_getR (c1 := 22) qF_RX2_9 rfl rfl dX2_replaceBy_21 ?_
      refine p_iload_n rfl dX2_replaceBy_24 ?_
      refine p_aload_n rfl dX2_replaceBy_25 ?_
      refine p_getR (c1 := 22) qF_RX2_9 rfl rfl dX2_replaceBy_26 ?_
      refine p_iload_n rfl dX2_replaceBy_29 ?_
      refine p_iconst (v := 1) (by decide) dX2_replaceBy_30 ?_
      refine p_isub dX2_replaceBy_31 ?_
      obtain ⟨hg, hF⟩ := ok_g hF
      refine p_iald rfl (inb_in hg) dX2_replaceBy_32 ?_
      refine p_iload_n rfl dX2_replaceBy_33 ?_
      refine p_iload_n rfl dX2_replaceBy_34 ?_
      refine p_icmp_gt (tgt := 46) dX2_replaceBy_35 (by decide) (fun hc => ?_) (fun hc => ?_)
      · have hF := ok_t hc hF
        refine p_iconst (v := 0) (by decide) dX2_replaceBy_46 ?_
        exact p_lv [0, 1, 2, 3] rfl (b_X2_replaceBy_47 ih _ _ _ _ _ _ _ hF)
      · have hF := ok_f hc hF
        refine p_aload_n rfl dX2_replaceBy_38 ?_
        refine p_iload_n rfl dX2_replaceBy_39 ?_
        refine p_iconst (v := 1) (by decide) dX2_replaceBy_40 ?_
        refine p_isub dX2_replaceBy_41 ?_
        obtain ⟨hg, hF⟩ := ok_g hF
        refine p_iald (isA_in hg) (inb_in hg) dX2_replaceBy_42 ?_
        refine p_goto (tgt := 47) dX2_replaceBy_43 (by decide) ?_
        exact p_lv [0, 1, 2, 3] rfl (b_X2_replaceBy_47 ih _ _ _ _ _ _ _ hF)
theorem tX2_replaceBy {d : Nat} {Q : Option Value → Hp → Prop} {a1 : Nat} {a2 : Int32} {sg : Hp} (hF : ok jV (fX2_replaceBy a1 a2 sg) Q) : pw tC d mX2_replaceBy 0 (lv_args 0 [.ref 3, .ref a1, .int a2]) [] sg Q := by
  unfold fX2_replaceBy at hF
  show pw _ _ _ _ [(0, .ref 3), (1, .ref a1), (2, .int a2)] [] _ _
  refine p_aload_n rfl dX2_replaceBy_0 ?_
  refine p_iload_n rfl dX2_replaceBy_1 ?_
  refine p_put qF_RX2_18 qP_1_2 rfl rfl rfl rfl dX2_replaceBy_2 ?_
  refine p_aload_n rfl dX2_replaceBy_5 ?_
  refine p_getR (c1 := 22) qF_RX2_9 rfl rfl dX2_replaceBy_6 ?_
  refine p_iconst (v := 0) (by decide) dX2_replaceBy_9 ?_
  refine p_iconst (v := 0) (by decide) dX2_replaceBy_10 ?_
  obtain ⟨hg, hF⟩ := ok_g hF
  refine p_iast rfl (inb_in hg) dX2_replaceBy_11 ?_
  refine p_iconst (v := 1) (by decide) dX2_replaceBy_12 ?_
  refine p_istore_n (Nat.le_of_ble_eq_true rfl) rfl dX2_replaceBy_13 ?_
  refine p_lv [0, 1, 2, 3] rfl (l_X2_replaceBy_14 ?_ 200 _ _ _ _ hF)
  intro s2 hF
  exact p_vret rfl dX2_replaceBy_55 (ok_r (j := jV) hF)
theorem l_X2_firstBreak_14 {d : Nat} {Q : Option Value → Hp → Prop} {k52 : Nat → Int32 → Hp → Option (Int32 × Hp)} (hk52 : ∀ (z1 : Nat) (z2 : Int32) (s2 : Hp), ok jI (k52 z1 z2 s2) Q → pw tC d mX2_firstBreak 52 [(0, .ref 3), (1, .ref z1), (2, .int z2)] [] s2 Q) {k39 : Int32 → Int32 → Hp → Option (Int32 × Hp)} (hk39 : ∀ (z2 : Int32) (z3 : Int32) (s2 : Hp), ok jI (k39 z2 z3 s2) Q → pw tC d mX2_firstBreak 39 [(2, .int z2), (3, .int z3)] [] s2 Q) : ∀ (n : Nat) (v1 : Nat) (v2 : Int32) (v3 : Int32) (sg : Hp), ok jI (L_X2_firstBreak_14 k52 k39 n v1 v2 v3 sg) Q → pw tC d mX2_firstBreak 14 [(0, .ref 3), (1, .ref v1), (2, .int v2), (3, .int v3)] [] sg Q := by
  intro n
  induction n with
  | zero =>
    intro v1 v2 v3 sg hF
    obtain ⟨_, _, h9, _⟩ := hF
    cases h9
  | succ n ih =>
    intro v1 v2 v3 sg hF
    refine p_iload_n rfl dX2_firstBreak_14 ?_
    refine p_if_lt (tgt := 52) dX2_firstBreak_15 (by decide) (fun hc => ?_) (fun hc => ?_)
    · have hF := ok_t hc hF
      exact p_lv [0, 1, 2] rfl (hk52 _ _ _ hF)
    · have hF := ok_f hc hF
      refine p_aload_n rfl dX2_firstBreak_18 ?_
      refine p_getR (c1 := 22) qF_RX2_9 rfl rfl dX2_firstBreak_19 ?_
      refine p_iload_n rfl dX2_firstBreak_22 ?_
      obtain ⟨hg, hF⟩ := ok_g hF
      refine p_iald rfl (inb_in hg) dX2_firstBreak_23 ?_
      refine p_aload_n rfl dX2_firstBreak_24 ?_
      refine p_getR (c1 := 22) qF_RX2_9 rfl rfl dX2_firstBreak_25 ?_
      refine p_iload_n rfl dX2_firstBreak_28 ?_
      obtain ⟨hg, hF⟩ := ok_g hF
      refine p_iald rfl (inb_in hg) dX2_firstBreak_29 ?_
      refine p_isub dX2_firstBreak_30 ?_
      refine p_aload_n rfl dX2_firstBreak_31 ?_
      refine p_iload_n rfl dX2_firstBreak_32 ?_
      refine p_iload_n rfl dX2_firstBreak_33 ?_
      refine p_isub dX2_firstBreak_34 ?_
      obtain ⟨hg, hF⟩ := ok_g hF
      refine p_iald (isA_in hg) (inb_in hg) dX2_firstBreak_35 ?_
      refine p_icmp_le (tgt := 46) dX2_firstBreak_36 (by decide) (fun hc => ?_) (fun hc => ?_)
      · have hF := ok_t hc hF
        refine p_iinc (w := -1) (by decide) rfl (Nat.le_of_ble_eq_true rfl) rfl dX2_firstBreak_46 ?_
        refine p_goto (tgt := 14) dX2_firstBreak_49 (by decide) ?_
        exact p_lv [0, 1, 2, 3] rfl (ih _ _ _ _ hF)
      · have hF := ok_f hc hF
        exact p_lv [2, 3] rfl (hk39 _ _ _ hF)
theorem l_X2_firstBreak_2 {d : Nat} {Q : Option Value → Hp → Prop} {k58 : Hp → Option (Int32 × Hp)} (hk58 : ∀ (s2 : Hp), ok jI (k58 s2) Q → pw tC d mX2_firstBreak 58 [] [] s2 Q) {k39 : Int32 → Int32 → Hp → Option (Int32 × Hp)} (hk39 : ∀ (z2 : Int32) (z3 : Int32) (s2 : Hp), ok jI (k39 z2 z3 s2) Q → pw tC d mX2_firstBreak 39 [(2, .int z2), (3, .int z3)] [] s2 Q) : ∀ (n : Nat) (v1 : Nat) (v2 : Int32) (sg : Hp), ok jI (L_X2_firstBreak_2 k58 k39 n v1 v2 sg) Q → pw tC d mX2_firstBreak 2 [(0, .ref 3), (1, .ref v1), (2, .int v2)] [] sg Q := by
  intro n
  induction n with
  | zero =>
    intro v1 v2 sg hF
    obtain ⟨_, _, h9, _⟩ := hF
    cases h9
  | succ n ih =>
    intro v1 v2 sg hF
    refine p_iload_n rfl dX2_firstBreak_2 ?_
    refine p_aload_n rfl dX2_firstBreak_3 ?_
    refine p_getI qF_RX2_18 rfl rfl dX2_firstBreak_4 ?_
    refine p_icmp_gt (tgt := 58) dX2_firstBreak_7 (by decide) (fun hc => ?_) (fun hc => ?_)
    · have hF := ok_t hc hF
      exact p_lv [] rfl (hk58 _ hF)
    · have hF := ok_f hc hF
      refine p_iload_n rfl dX2_firstBreak_10 ?_
      refine p_iconst (v := 1) (by decide) dX2_firstBreak_11 ?_
      refine p_isub dX2_firstBreak_12 ?_
      refine p_istore_n (Nat.le_of_ble_eq_true rfl) rfl dX2_firstBreak_13 ?_
      refine p_lv [0, 1, 2, 3] rfl (l_X2_firstBreak_14 ?_ hk39 200 _ _ _ _ hF)
      intro w1_1 w1_2 s2 hF
      refine p_iinc (w := 1) (by decide) rfl (Nat.le_of_ble_eq_true rfl) rfl dX2_firstBreak_52 ?_
      refine p_goto (tgt := 2) dX2_firstBreak_55 (by decide) ?_
      exact p_lv [0, 1, 2] rfl (ih _ _ _ hF)
theorem tX2_firstBreak {d : Nat} {Q : Option Value → Hp → Prop} {a1 : Nat} {sg : Hp} (hF : ok jI (fX2_firstBreak a1 sg) Q) : pw tC d mX2_firstBreak 0 (lv_args 0 [.ref 3, .ref a1]) [] sg Q := by
  unfold fX2_firstBreak at hF
  show pw _ _ _ _ [(0, .ref 3), (1, .ref a1)] [] _ _
  refine p_iconst (v := 1) (by decide) dX2_firstBreak_0 ?_
  refine p_istore_n (Nat.le_of_ble_eq_true rfl) rfl dX2_firstBreak_1 ?_
  refine p_lv [0, 1, 2] rfl (l_X2_firstBreak_2 ?_ ?_ 200 _ _ _ hF)
  · intro s4 hF
    refine p_bipush (v := -9) (by decide) dX2_firstBreak_58 ?_
    exact p_iret rfl dX2_firstBreak_60 (ok_r (j := jI) hF)
  · intro w5_2 w5_3 s6 hF
    refine p_bipush (v := 100) (by decide) dX2_firstBreak_39 ?_
    refine p_iload_n rfl dX2_firstBreak_41 ?_
    refine p_imul dX2_firstBreak_42 ?_
    refine p_iload_n rfl dX2_firstBreak_43 ?_
    refine p_iadd dX2_firstBreak_44 ?_
    exact p_iret rfl dX2_firstBreak_45 (ok_r (j := jI) hF)
theorem l_X2_leastBurst_7 {d : Nat} {Q : Option Value → Hp → Prop} {k52 : Int32 → Hp → Option (Int32 × Hp)} (hk52 : ∀ (z2 : Int32) (s2 : Hp), ok jI (k52 z2 s2) Q → pw tC (d + 1) mX2_leastBurst 52 [(2, .int z2)] [] s2 Q) : ∀ (n : Nat) (v1 : Int32) (v2 : Int32) (v3 : Int32) (v4 : Int32) (sg : Hp), ok jI (L_X2_leastBurst_7 k52 n v1 v2 v3 v4 sg) Q → pw tC (d + 1) mX2_leastBurst 7 [(0, .ref 3), (1, .int v1), (2, .int v2), (3, .int v3), (4, .int v4)] [] sg Q := by
  intro n
  induction n with
  | zero =>
    intro v1 v2 v3 v4 sg hF
    obtain ⟨_, _, h9, _⟩ := hF
    cases h9
  | succ n ih =>
    intro v1 v2 v3 v4 sg hF
    refine p_iload rfl dX2_leastBurst_7 ?_
    refine p_aload_n rfl dX2_leastBurst_9 ?_
    refine p_getI qF_RX2_18 rfl rfl dX2_leastBurst_10 ?_
    refine p_icmp_gt (tgt := 52) dX2_leastBurst_13 (by decide) (fun hc => ?_) (fun hc => ?_)
    · have hF := ok_t hc hF
      exact p_lv [2] rfl (hk52 _ _ hF)
    · have hF := ok_f hc hF
      refine p_aload_n rfl dX2_leastBurst_16 ?_
      refine p_getR (c1 := 22) qF_RX2_9 rfl rfl dX2_leastBurst_17 ?_
      refine p_iload rfl dX2_leastBurst_20 ?_
      obtain ⟨hg, hF⟩ := ok_g hF
      refine p_iald rfl (inb_in hg) dX2_leastBurst_22 ?_
      refine p_iload_n rfl dX2_leastBurst_23 ?_
      refine p_iload rfl dX2_leastBurst_24 ?_
      refine p_imul dX2_leastBurst_26 ?_
      refine p_isub dX2_leastBurst_27 ?_
      refine p_istore (Nat.le_of_ble_eq_true rfl) rfl dX2_leastBurst_28 ?_
      refine p_iload_n rfl dX2_leastBurst_30 ?_
      refine p_iload rfl dX2_leastBurst_31 ?_
      refine p_iload_n rfl dX2_leastBurst_33 ?_
      refine p_isub dX2_leastBurst_34 ?_
      refine p_max wd_641 wd_430 wd_77 wd_431 (Nat.le_of_ble_eq_true rfl) dX2_leastBurst_35 ?_
      refine p_istore_n (Nat.le_of_ble_eq_true rfl) rfl dX2_leastBurst_38 ?_
      refine p_iload_n rfl dX2_leastBurst_39 ?_
      refine p_iload rfl dX2_leastBurst_40 ?_
      refine p_min wd_642 wd_320 wd_77 wd_321 (Nat.le_of_ble_eq_true rfl) dX2_leastBurst_42 ?_
      refine p_istore_n (Nat.le_of_ble_eq_true rfl) rfl dX2_leastBurst_45 ?_
      refine p_iinc (w := 1) (by decide) rfl (Nat.le_of_ble_eq_true rfl) rfl dX2_leastBurst_46 ?_
      refine p_goto (tgt := 7) dX2_leastBurst_49 (by decide) ?_
      exact p_lv [0, 1, 2, 3, 4] rfl (ih _ _ _ _ _ hF)
theorem tX2_leastBurst {d : Nat} (hd : 1 ≤ d) {Q : Option Value → Hp → Prop} {a1 : Int32} {sg : Hp} (hF : ok jI (fX2_leastBurst a1 sg) Q) : pw tC d mX2_leastBurst 0 (lv_args 0 [.ref 3, .int a1]) [] sg Q := by
  unfold fX2_leastBurst at hF
  obtain ⟨d, rfl⟩ : ∃ e, d = e + 1 := ⟨d - 1, by omega⟩
  show pw _ _ _ _ [(0, .ref 3), (1, .int a1)] [] _ _
  refine p_iconst (v := 0) (by decide) dX2_leastBurst_0 ?_
  refine p_istore_n (Nat.le_of_ble_eq_true rfl) rfl dX2_leastBurst_1 ?_
  refine p_iconst (v := 0) (by decide) dX2_leastBurst_2 ?_
  refine p_istore_n (Nat.le_of_ble_eq_true rfl) rfl dX2_leastBurst_3 ?_
  refine p_iconst (v := 1) (by decide) dX2_leastBurst_4 ?_
  refine p_istore (Nat.le_of_ble_eq_true rfl) rfl dX2_leastBurst_5 ?_
  refine p_lv [0, 1, 2, 3, 4] rfl (l_X2_leastBurst_7 ?_ 200 _ _ _ _ _ hF)
  intro w1_2 s2 hF
  refine p_iload_n rfl dX2_leastBurst_52 ?_
  exact p_iret rfl dX2_leastBurst_53 (ok_r (j := jI) hF)
theorem tX2_shapeBy {d : Nat} (hd : 2 ≤ d) {Q : Option Value → Hp → Prop} {a1 : Nat} {sg : Hp} (hF : ok jV (fX2_shapeBy a1 sg) Q) : pw tC d mX2_shapeBy 0 (lv_args 0 [.ref 3, .ref a1]) [] sg Q := by
  unfold fX2_shapeBy at hF
  obtain ⟨d, rfl⟩ : ∃ e, d = e + 1 := ⟨d - 1, by omega⟩
  have hd : 1 ≤ d := by omega
  show pw _ _ _ _ [(0, .ref 3), (1, .ref a1)] [] _ _
  refine p_aload_n rfl dX2_shapeBy_0 ?_
  refine p_getR (c1 := 22) qF_RX2_9 rfl rfl dX2_shapeBy_1 ?_
  refine p_aload_n rfl dX2_shapeBy_4 ?_
  refine p_aload_n rfl dX2_shapeBy_5 ?_
  refine p_getR (c1 := 23) qF_RX2_15 rfl rfl dX2_shapeBy_6 ?_
  refine p_callS (av := [.ref 22, .ref _, .ref 23]) qS_RX2_31 rfl (Nat.le_of_ble_eq_true rfl) (Nat.le_of_ble_eq_true rfl) dX2_shapeBy_9 (tX1_fillAlong (by omega) (ok_b hF)) (fun r0 s2 hF => ?_)
  obtain ⟨r1, rfl, hF⟩ := hF
  exact p_vret rfl dX2_shapeBy_12 (ok_r (j := jV) hF)
theorem tX2_mostHeld {d : Nat} (hd : 2 ≤ d) {Q : Option Value → Hp → Prop}  {sg : Hp} (hF : ok jI (fX2_mostHeld  sg) Q) : pw tC d mX2_mostHeld 0 (lv_args 0 [.ref 3]) [] sg Q := by
  unfold fX2_mostHeld at hF
  obtain ⟨d, rfl⟩ : ∃ e, d = e + 1 := ⟨d - 1, by omega⟩
  have hd : 1 ≤ d := by omega
  show pw _ _ _ _ [(0, .ref 3)] [] _ _
  refine p_aload_n rfl dX2_mostHeld_0 ?_
  refine p_getR (c1 := 22) qF_RX2_9 rfl rfl dX2_mostHeld_1 ?_
  refine p_aload_n rfl dX2_mostHeld_4 ?_
  refine p_getR (c1 := 23) qF_RX2_15 rfl rfl dX2_mostHeld_5 ?_
  refine p_callS (av := [.ref 22, .ref 23]) qS_RX2_37 rfl (Nat.le_of_ble_eq_true rfl) (Nat.le_of_ble_eq_true rfl) dX2_mostHeld_8 (tX1_greatestHeap (by omega) (ok_b hF)) (fun r0 s2 hF => ?_)
  obtain ⟨r1, rfl, hF⟩ := hF
  exact p_iret rfl dX2_mostHeld_11 (ok_r (j := jI) hF)
theorem tX2_latestOfShaped {d : Nat} (hd : 2 ≤ d) {Q : Option Value → Hp → Prop}  {sg : Hp} (hF : ok jI (fX2_latestOfShaped  sg) Q) : pw tC d mX2_latestOfShaped 0 (lv_args 0 [.ref 3]) [] sg Q := by
  unfold fX2_latestOfShaped at hF
  obtain ⟨d, rfl⟩ : ∃ e, d = e + 1 := ⟨d - 1, by omega⟩
  have hd : 1 ≤ d := by omega
  show pw _ _ _ _ [(0, .ref 3)] [] _ _
  refine p_aload_n rfl dX2_latestOfShaped_0 ?_
  refine p_getR (c1 := 22) qF_RX2_9 rfl rfl dX2_latestOfShaped_1 ?_
  refine p_aload_n rfl dX2_latestOfShaped_4 ?_
  refine p_getR (c1 := 23) qF_RX2_15 rfl rfl dX2_latestOfShaped_5 ?_
  refine p_bipush (v := 40) (by decide) dX2_latestOfShaped_8 ?_
  refine p_callS (av := [.ref 22, .ref 23, .int _]) qS_RX2_41 rfl (Nat.le_of_ble_eq_true rfl) (Nat.le_of_ble_eq_true rfl) dX2_latestOfShaped_10 (tX1_longestWait (by omega) (ok_b hF)) (fun r0 s2 hF => ?_)
  obtain ⟨r1, rfl, hF⟩ := hF
  exact p_iret rfl dX2_latestOfShaped_13 (ok_r (j := jI) hF)
theorem b_X3_has_14 {d : Nat} {Q : Option Value → Hp → Prop}  (vk0 : Int32) (sg : Hp) (hF : ok jI (B_X3_has_14  vk0 sg) Q) : pw tC d mX3_has 14 [] [.int vk0] sg Q := by
  unfold B_X3_has_14 at hF
  obtain ⟨hg, hF⟩ := ok_g hF
  exact p_zret rfl (b01_n hg).1 dX3_has_14 (ok_r (j := jI) hF)
theorem b_X3_has_13 {d : Nat} {Q : Option Value → Hp → Prop}   (sg : Hp) (hF : ok jI (B_X3_has_13   sg) Q) : pw tC d mX3_has 13 [] [] sg Q := by
  unfold B_X3_has_13 at hF
  refine p_iconst (v := 0) (by decide) dX3_has_13 ?_
  exact p_lv [] rfl (b_X3_has_14  _ _ hF)
theorem tX3_has {d : Nat} {Q : Option Value → Hp → Prop} {a1 : Int32} {sg : Hp} (hF : ok jI (fX3_has a1 sg) Q) : pw tC d mX3_has 0 (lv_args 0 [.ref 4, .int a1]) [] sg Q := by
  unfold fX3_has at hF
  show pw _ _ _ _ [(0, .ref 4), (1, .int a1)] [] _ _
  refine p_iload_n rfl dX3_has_0 ?_
  refine p_if_lt (tgt := 13) dX3_has_1 (by decide) (fun hc => ?_) (fun hc => ?_)
  · have hF := ok_t hc hF
    exact p_lv [] rfl (b_X3_has_13  _ hF)
  · have hF := ok_f hc hF
    refine p_iload_n rfl dX3_has_4 ?_
    refine p_iconst (v := 4) (by decide) dX3_has_5 ?_
    refine p_icmp_ge (tgt := 13) dX3_has_6 (by decide) (fun hc => ?_) (fun hc => ?_)
    · have hF := ok_t hc hF
      exact p_lv [] rfl (b_X3_has_13  _ hF)
    · have hF := ok_f hc hF
      refine p_iconst (v := 1) (by decide) dX3_has_9 ?_
      refine p_goto (tgt := 14) dX3_has_10 (by decide) ?_
      exact p_lv [] rfl (b_X3_has_14  _ _ hF)
theorem b_X3_isLane_14 {d : Nat} {Q : Option Value → Hp → Prop}  (vk0 : Int32) (sg : Hp) (hF : ok jI (B_X3_isLane_14  vk0 sg) Q) : pw tC d mX3_isLane 14 [] [.int vk0] sg Q := by
  unfold B_X3_isLane_14 at hF
  obtain ⟨hg, hF⟩ := ok_g hF
  exact p_zret rfl (b01_n hg).1 dX3_isLane_14 (ok_r (j := jI) hF)
theorem b_X3_isLane_13 {d : Nat} {Q : Option Value → Hp → Prop}   (sg : Hp) (hF : ok jI (B_X3_isLane_13   sg) Q) : pw tC d mX3_isLane 13 [] [] sg Q := by
  unfold B_X3_isLane_13 at hF
  refine p_iconst (v := 0) (by decide) dX3_isLane_13 ?_
  exact p_lv [] rfl (b_X3_isLane_14  _ _ hF)
theorem tX3_isLane {d : Nat} {Q : Option Value → Hp → Prop} {a1 : Int32} {sg : Hp} (hF : ok jI (fX3_isLane a1 sg) Q) : pw tC d mX3_isLane 0 (lv_args 0 [.ref 4, .int a1]) [] sg Q := by
  unfold fX3_isLane at hF
  show pw _ _ _ _ [(0, .ref 4), (1, .int a1)] [] _ _
  refine p_iload_n rfl dX3_isLane_0 ?_
  refine p_if_lt (tgt := 13) dX3_isLane_1 (by decide) (fun hc => ?_) (fun hc => ?_)
  · have hF := ok_t hc hF
    exact p_lv [] rfl (b_X3_isLane_13  _ hF)
  · have hF := ok_f hc hF
    refine p_iload_n rfl dX3_isLane_4 ?_
    refine p_iconst (v := 3) (by decide) dX3_isLane_5 ?_
    refine p_icmp_ge (tgt := 13) dX3_isLane_6 (by decide) (fun hc => ?_) (fun hc => ?_)
    · have hF := ok_t hc hF
      exact p_lv [] rfl (b_X3_isLane_13  _ hF)
    · have hF := ok_f hc hF
      refine p_iconst (v := 1) (by decide) dX3_isLane_9 ?_
      refine p_goto (tgt := 14) dX3_isLane_10 (by decide) ?_
      exact p_lv [] rfl (b_X3_isLane_14  _ _ hF)
theorem b_X3_renew_24 {d : Nat} {Q : Option Value → Hp → Prop}   (sg : Hp) (hF : ok jI (B_X3_renew_24   sg) Q) : pw tC (d + 1) mX3_renew 24 [] [] sg Q := by
  unfold B_X3_renew_24 at hF
  refine p_bipush (v := -2) (by decide) dX3_renew_24 ?_
  exact p_iret rfl dX3_renew_26 (ok_r (j := jI) hF)
theorem tX3_renew {d : Nat} (hd : 1 ≤ d) {Q : Option Value → Hp → Prop} {a1 : Int32} {a2 : Int32} {a3 : Int32} {sg : Hp} (hF : ok jI (fX3_renew a1 a2 a3 sg) Q) : pw tC d mX3_renew 0 (lv_args 0 [.ref 4, .int a1, .int a2, .int a3]) [] sg Q := by
  unfold fX3_renew at hF
  obtain ⟨d, rfl⟩ : ∃ e, d = e + 1 := ⟨d - 1, by omega⟩
  show pw _ _ _ _ [(0, .ref 4), (1, .int a1), (2, .int a2), (3, .int a3)] [] _ _
  refine p_aload_n rfl dX3_renew_0 ?_
  refine p_iload_n rfl dX3_renew_1 ?_
  refine p_callV (c0 := 4) (av := [.int _]) qV_RX3_29 rfl rfl rfl rfl (Nat.le_of_ble_eq_true rfl) (Nat.le_of_ble_eq_true rfl) dX3_renew_2 (tX3_has (ok_b hF)) (fun r0 s2 hF => ?_)
  obtain ⟨r1, rfl, hF⟩ := hF
  refine p_if_ne (tgt := 10) dX3_renew_5 (by decide) (fun hc => ?_) (fun hc => ?_)
  · have hF := ok_f hc hF
    refine p_aload_n rfl dX3_renew_10 ?_
    refine p_iload_n rfl dX3_renew_11 ?_
    refine p_callV (c0 := 4) (av := [.int _]) qV_RX3_33 rfl rfl rfl rfl (Nat.le_of_ble_eq_true rfl) (Nat.le_of_ble_eq_true rfl) dX3_renew_12 (tX3_isLane (ok_b hF)) (fun r0 s4 hF => ?_)
    obtain ⟨r3, rfl, hF⟩ := hF
    refine p_if_eq (tgt := 24) dX3_renew_15 (by decide) (fun hc => ?_) (fun hc => ?_)
    · have hF := ok_t hc hF
      exact p_lv [] rfl (b_X3_renew_24  _ hF)
    · have hF := ok_f hc hF
      refine p_iload_n rfl dX3_renew_18 ?_
      refine p_bipush (v := 60) (by decide) dX3_renew_19 ?_
      refine p_icmp_le (tgt := 27) dX3_renew_21 (by decide) (fun hc => ?_) (fun hc => ?_)
      · have hF := ok_t hc hF
        refine p_iload_n rfl dX3_renew_27 ?_
        refine p_if_ge (tgt := 34) dX3_renew_28 (by decide) (fun hc => ?_) (fun hc => ?_)
        · have hF := ok_t hc hF
          refine p_aload_n rfl dX3_renew_34 ?_
          refine p_getR (c1 := 24) qF_RX3_11 rfl rfl dX3_renew_35 ?_
          refine p_iload_n rfl dX3_renew_38 ?_
          obtain ⟨hg, hF⟩ := ok_g hF
          refine p_aald rfl (inb_in hg) dX3_renew_39 ?_
          refine p_iconst (v := 0) (by decide) dX3_renew_40 ?_
          refine p_callS (av := [.ref _, .int _]) qS_RX3_23 rfl (Nat.le_of_ble_eq_true rfl) (Nat.le_of_ble_eq_true rfl) dX3_renew_41 (tJ7_fill_53178 (ok_b hF)) (fun r0 s6 hF => ?_)
          obtain ⟨r5, rfl, hF⟩ := hF
          refine p_aload_n rfl dX3_renew_44 ?_
          refine p_getR (c1 := 25) qF_RX3_16 rfl rfl dX3_renew_45 ?_
          refine p_iload_n rfl dX3_renew_48 ?_
          refine p_iload_n rfl dX3_renew_49 ?_
          obtain ⟨hg, hF⟩ := ok_g hF
          refine p_iast rfl (inb_in hg) dX3_renew_50 ?_
          refine p_aload_n rfl dX3_renew_51 ?_
          refine p_getR (c1 := 26) qF_RX3_20 rfl rfl dX3_renew_52 ?_
          refine p_iload_n rfl dX3_renew_55 ?_
          refine p_iload_n rfl dX3_renew_56 ?_
          obtain ⟨hg, hF⟩ := ok_g hF
          refine p_iast rfl (inb_in hg) dX3_renew_57 ?_
          refine p_iconst (v := 1) (by decide) dX3_renew_58 ?_
          exact p_iret rfl dX3_renew_59 (ok_r (j := jI) hF)
        · have hF := ok_f hc hF
          refine p_bipush (v := -14) (by decide) dX3_renew_31 ?_
          exact p_iret rfl dX3_renew_33 (ok_r (j := jI) hF)
      · have hF := ok_f hc hF
        exact p_lv [] rfl (b_X3_renew_24  _ hF)
  · have hF := ok_t hc hF
    refine p_iconst (v := -1) (by decide) dX3_renew_8 ?_
    exact p_iret rfl dX3_renew_9 (ok_r (j := jI) hF)
theorem b_X3_drop_15 {d : Nat} {Q : Option Value → Hp → Prop}  (v1 : Int32) (vk0 : Int32) (sg : Hp) (hF : ok jI (B_X3_drop_15  v1 vk0 sg) Q) : pw tC d mX3_drop 15 [(0, .ref 4), (1, .int v1)] [.int vk0] sg Q := by
  unfold B_X3_drop_15 at hF
  refine p_istore_n (Nat.le_of_ble_eq_true rfl) rfl dX3_drop_15 ?_
  refine p_aload_n rfl dX3_drop_16 ?_
  refine p_getR (c1 := 25) qF_RX3_16 rfl rfl dX3_drop_17 ?_
  refine p_iload_n rfl dX3_drop_20 ?_
  refine p_iconst (v := -1) (by decide) dX3_drop_21 ?_
  obtain ⟨hg, hF⟩ := ok_g hF
  refine p_iast rfl (inb_in hg) dX3_drop_22 ?_
  refine p_iload_n rfl dX3_drop_23 ?_
  exact p_iret rfl dX3_drop_24 (ok_r (j := jI) hF)
theorem tX3_drop {d : Nat} {Q : Option Value → Hp → Prop} {a1 : Int32} {sg : Hp} (hF : ok jI (fX3_drop a1 sg) Q) : pw tC d mX3_drop 0 (lv_args 0 [.ref 4, .int a1]) [] sg Q := by
  unfold fX3_drop at hF
  show pw _ _ _ _ [(0, .ref 4), (1, .int a1)] [] _ _
  refine p_aload_n rfl dX3_drop_0 ?_
  refine p_getR (c1 := 25) qF_RX3_16 rfl rfl dX3_drop_1 ?_
  refine p_iload_n rfl dX3_drop_4 ?_
  obtain ⟨hg, hF⟩ := ok_g hF
  refine p_iald rfl (inb_in hg) dX3_drop_5 ?_
  refine p_iconst (v := -1) (by decide) dX3_drop_6 ?_
  refine p_icmp_ne (tgt := 14) dX3_drop_7 (by decide) (fun hc => ?_) (fun hc => ?_)
  · have hF := ok_f hc hF
    refine p_iconst (v := 1) (by decide) dX3_drop_14 ?_
    exact p_lv [0, 1] rfl (b_X3_drop_15  _ _ _ hF)
  · have hF := ok_t hc hF
    refine p_iconst (v := 0) (by decide) dX3_drop_10 ?_
    refine p_goto (tgt := 15) dX3_drop_11 (by decide) ?_
    exact p_lv [0, 1] rfl (b_X3_drop_15  _ _ _ hF)
theorem b_X3_cut_18 {d : Nat} {Q : Option Value → Hp → Prop}  (vk0 : Int32) (sg : Hp) (hF : ok jI (B_X3_cut_18  vk0 sg) Q) : pw tC d mX3_cut 18 [] [.int vk0] sg Q := by
  unfold B_X3_cut_18 at hF
  exact p_iret rfl dX3_cut_18 (ok_r (j := jI) hF)
theorem tX3_cut {d : Nat} {Q : Option Value → Hp → Prop} {a1 : Int32} {a2 : Int32} {sg : Hp} (hF : ok jI (fX3_cut a1 a2 sg) Q) : pw tC d mX3_cut 0 (lv_args 0 [.ref 4, .int a1, .int a2]) [] sg Q := by
  unfold fX3_cut at hF
  show pw _ _ _ _ [(0, .ref 4), (1, .int a1), (2, .int a2)] [] _ _
  refine p_iload_n rfl dX3_cut_0 ?_
  refine p_if_ne (tgt := 7) dX3_cut_1 (by decide) (fun hc => ?_) (fun hc => ?_)
  · have hF := ok_f hc hF
    refine p_iload_n rfl dX3_cut_7 ?_
    refine p_iconst (v := 1) (by decide) dX3_cut_8 ?_
    refine p_icmp_ne (tgt := 17) dX3_cut_9 (by decide) (fun hc => ?_) (fun hc => ?_)
    · have hF := ok_f hc hF
      refine p_iload_n rfl dX3_cut_17 ?_
      exact p_lv [] rfl (b_X3_cut_18  _ _ hF)
    · have hF := ok_t hc hF
      refine p_iload_n rfl dX3_cut_12 ?_
      refine p_i2s dX3_cut_13 ?_
      refine p_goto (tgt := 18) dX3_cut_14 (by decide) ?_
      exact p_lv [] rfl (b_X3_cut_18  _ _ hF)
  · have hF := ok_t hc hF
    refine p_iload_n rfl dX3_cut_4 ?_
    refine p_i2b dX3_cut_5 ?_
    exact p_iret rfl dX3_cut_6 (ok_r (j := jI) hF)
