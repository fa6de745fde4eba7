theorem b_X7_in_18 {d : Nat} {Q : Option Value → Hp → Prop}  (vk0 : Int32) (sg : Hp) (hF : ok jI (B_X7_in_18  vk0 sg) Q) : pw tM d mX7_in 18 [] [.int vk0] sg Q := by
  unfold B_X7_in_18 at hF
  obtain ⟨hg, hF⟩ := ok_g hF
  exact p_zret rfl (b01_n hg).1 dX7_in_18 (ok_r (j := jI) hF)
theorem b_X7_in_17 {d : Nat} {Q : Option Value → Hp → Prop}   (sg : Hp) (hF : ok jI (B_X7_in_17   sg) Q) : pw tM d mX7_in 17 [] [] sg Q := by
  unfold B_X7_in_17 at hF
  refine p_iconst (v := 0) (by decide) dX7_in_17 ?_
  exact p_lv [] rfl (b_X7_in_18  _ _ hF)
theorem tX7_in {d : Nat} {Q : Option Value → Hp → Prop} {a1 : Int64} {a2 : Int64} {a3 : Int64} {sg : Hp} (hF : ok jI (fX7_in a1 a2 a3 sg) Q) : pw tM d mX7_in 0 (lv_args 0 [.long a1, .long a2, .long a3]) [] sg Q := by
  unfold fX7_in at hF
  show pw _ _ _ _ [(0, .long a1), (2, .long a2), (4, .long a3)] [] _ _
  refine p_lload_n rfl dX7_in_0 ?_
  refine p_lload_n rfl dX7_in_1 ?_
  refine p_lcmp dX7_in_2 ?_
  refine p_if_lt (tgt := 17) dX7_in_3 (by decide) (fun hc => ?_) (fun hc => ?_)
  · have hF := ok_t hc hF
    exact p_lv [] rfl (b_X7_in_17  _ hF)
  · have hF := ok_f hc hF
    refine p_lload_n rfl dX7_in_6 ?_
    refine p_lload rfl dX7_in_7 ?_
    refine p_lcmp dX7_in_9 ?_
    refine p_if_gt (tgt := 17) dX7_in_10 (by decide) (fun hc => ?_) (fun hc => ?_)
    · have hF := ok_t hc hF
      exact p_lv [] rfl (b_X7_in_17  _ hF)
    · have hF := ok_f hc hF
      refine p_iconst (v := 1) (by decide) dX7_in_13 ?_
      refine p_goto (tgt := 18) dX7_in_14 (by decide) ?_
      exact p_lv [] rfl (b_X7_in_18  _ _ hF)
theorem tX7_lost {d : Nat} {Q : Option Value → Hp → Prop}  {sg : Hp} (hF : ok jL (fX7_lost  sg) Q) : pw tM d mX7_lost 0 (lv_args 0 []) [] sg Q := by
  unfold fX7_lost at hF
  show pw _ _ _ _ [] [] _ _
  refine p_ldc2 wd_1129 dX7_lost_0 ?_
  exact p_lret rfl dX7_lost_3 (ok_r (j := jL) hF)
theorem b_X7_lesser_10 {d : Nat} {Q : Option Value → Hp → Prop}  (vk0 : Int32) (sg : Hp) (hF : ok jI (B_X7_lesser_10  vk0 sg) Q) : pw tM d mX7_lesser 10 [] [.int vk0] sg Q := by
  unfold B_X7_lesser_10 at hF
  exact p_iret rfl dX7_lesser_10 (ok_r (j := jI) hF)
theorem tX7_lesser {d : Nat} {Q : Option Value → Hp → Prop} {a1 : Int32} {a2 : Int32} {sg : Hp} (hF : ok jI (fX7_lesser a1 a2 sg) Q) : pw tM d mX7_lesser 0 (lv_args 0 [.int a1, .int a2]) [] sg Q := by
  unfold fX7_lesser at hF
  show pw _ _ _ _ [(0, .int a1), (1, .int a2)] [] _ _
  refine p_iload_n rfl dX7_lesser_0 ?_
  refine p_iload_n rfl dX7_lesser_1 ?_
  refine p_icmp_ge (tgt := 9) dX7_lesser_2 (by decide) (fun hc => ?_) (fun hc => ?_)
  · have hF := ok_t hc hF
    refine p_iload_n rfl dX7_lesser_9 ?_
    exact p_lv [] rfl (b_X7_lesser_10  _ _ hF)
  · have hF := ok_f hc hF
    refine p_iload_n rfl dX7_lesser_5 ?_
    refine p_goto (tgt := 10) dX7_lesser_6 (by decide) ?_
    exact p_lv [] rfl (b_X7_lesser_10  _ _ hF)
theorem b_X7_greater_10 {d : Nat} {Q : Option Value → Hp → Prop}  (vk0 : Int32) (sg : Hp) (hF : ok jI (B_X7_greater_10  vk0 sg) Q) : pw tM d mX7_greater 10 [] [.int vk0] sg Q := by
  unfold B_X7_greater_10 at hF
  exact p_iret rfl dX7_greater_10 (ok_r (j := jI) hF)
theorem tX7_greater {d : Nat} {Q : Option Value → Hp → Prop} {a1 : Int32} {a2 : Int32} {sg : Hp} (hF : ok jI (fX7_greater a1 a2 sg) Q) : pw tM d mX7_greater 0 (lv_args 0 [.int a1, .int a2]) [] sg Q := by
  unfold fX7_greater at hF
  show pw _ _ _ _ [(0, .int a1), (1, .int a2)] [] _ _
  refine p_iload_n rfl dX7_greater_0 ?_
  refine p_iload_n rfl dX7_greater_1 ?_
  refine p_icmp_le (tgt := 9) dX7_greater_2 (by decide) (fun hc => ?_) (fun hc => ?_)
  · have hF := ok_t hc hF
    refine p_iload_n rfl dX7_greater_9 ?_
    exact p_lv [] rfl (b_X7_greater_10  _ _ hF)
  · have hF := ok_f hc hF
    refine p_iload_n rfl dX7_greater_5 ?_
    refine p_goto (tgt := 10) dX7_greater_6 (by decide) ?_
    exact p_lv [] rfl (b_X7_greater_10  _ _ hF)
theorem tX7_refused {d : Nat} {Q : Option Value → Hp → Prop} {a1 : Int32} {sg : Hp} (hF : ok jI (fX7_refused a1 sg) Q) : pw tM d mX7_refused 0 (lv_args 0 [.ref 300, .int a1]) [] sg Q := by
  unfold fX7_refused at hF
  show pw _ _ _ _ [(0, .ref 300), (1, .int a1)] [] _ _
  refine p_aload_n rfl dX7_refused_0 ?_
  refine p_iconst (v := 0) (by decide) dX7_refused_1 ?_
  refine p_put qF_RX7_57 qP_6_0 rfl rfl rfl rfl dX7_refused_2 ?_
  refine p_iload_n rfl dX7_refused_5 ?_
  exact p_iret rfl dX7_refused_6 (ok_r (j := jI) hF)
theorem tX7_failed {d : Nat} {Q : Option Value → Hp → Prop} {a1 : Int32} {sg : Hp} (hF : ok jI (fX7_failed a1 sg) Q) : pw tM d mX7_failed 0 (lv_args 0 [.ref 300, .int a1]) [] sg Q := by
  unfold fX7_failed at hF
  show pw _ _ _ _ [(0, .ref 300), (1, .int a1)] [] _ _
  refine p_aload_n rfl dX7_failed_0 ?_
  refine p_iload_n rfl dX7_failed_1 ?_
  refine p_put qF_RX7_57 qP_6_0 rfl rfl rfl rfl dX7_failed_2 ?_
  refine p_bipush (v := -10) (by decide) dX7_failed_5 ?_
  refine p_iload_n rfl dX7_failed_7 ?_
  refine p_isub dX7_failed_8 ?_
  exact p_iret rfl dX7_failed_9 (ok_r (j := jI) hF)
theorem tX7_failedLong {d : Nat} (hd : 1 ≤ d) {Q : Option Value → Hp → Prop} {a1 : Int32} {sg : Hp} (hF : ok jL (fX7_failedLong a1 sg) Q) : pw tM d mX7_failedLong 0 (lv_args 0 [.ref 300, .int a1]) [] sg Q := by
  unfold fX7_failedLong at hF
  obtain ⟨d, rfl⟩ : ∃ e, d = e + 1 := ⟨d - 1, by omega⟩
  show pw _ _ _ _ [(0, .ref 300), (1, .int a1)] [] _ _
  refine p_aload_n rfl dX7_failedLong_0 ?_
  refine p_iload_n rfl dX7_failedLong_1 ?_
  refine p_put qF_RX7_57 qP_6_0 rfl rfl rfl rfl dX7_failedLong_2 ?_
  refine p_callS (av := []) qS_RX7_61 rfl (Nat.le_of_ble_eq_true rfl) (Nat.le_of_ble_eq_true rfl) dX7_failedLong_5 (tX7_lost (ok_b hF)) (fun r0 s2 hF => ?_)
  obtain ⟨r1, rfl, hF⟩ := hF
  exact p_lret rfl dX7_failedLong_8 (ok_r (j := jL) hF)
theorem b_X7_isBeyond_25 {d : Nat} {Q : Option Value → Hp → Prop}  (vk0 : Int32) (sg : Hp) (hF : ok jI (B_X7_isBeyond_25  vk0 sg) Q) : pw tM d mX7_isBeyond 25 [] [.int vk0] sg Q := by
  unfold B_X7_isBeyond_25 at hF
  obtain ⟨hg, hF⟩ := ok_g hF
  exact p_zret rfl (b01_n hg).1 dX7_isBeyond_25 (ok_r (j := jI) hF)
theorem b_X7_isBeyond_20 {d : Nat} {Q : Option Value → Hp → Prop}   (sg : Hp) (hF : ok jI (B_X7_isBeyond_20   sg) Q) : pw tM d mX7_isBeyond 20 [] [] sg Q := by
  unfold B_X7_isBeyond_20 at hF
  refine p_iconst (v := 1) (by decide) dX7_isBeyond_20 ?_
  refine p_goto (tgt := 25) dX7_isBeyond_21 (by decide) ?_
  exact p_lv [] rfl (b_X7_isBeyond_25  _ _ hF)
theorem tX7_isBeyond {d : Nat} {Q : Option Value → Hp → Prop} {a1 : Int32} {a2 : Int64} {a3 : Int32} {sg : Hp} (hF : ok jI (fX7_isBeyond a1 a2 a3 sg) Q) : pw tM d mX7_isBeyond 0 (lv_args 0 [.int a1, .long a2, .int a3]) [] sg Q := by
  unfold fX7_isBeyond at hF
  show pw _ _ _ _ [(0, .int a1), (1, .long a2), (3, .int a3)] [] _ _
  refine p_iload_n rfl dX7_isBeyond_0 ?_
  refine p_if_lt (tgt := 20) dX7_isBeyond_1 (by decide) (fun hc => ?_) (fun hc => ?_)
  · have hF := ok_t hc hF
    exact p_lv [] rfl (b_X7_isBeyond_20  _ hF)
  · have hF := ok_f hc hF
    refine p_lload_n rfl dX7_isBeyond_4 ?_
    refine p_lconst (v := 0) (by decide) dX7_isBeyond_5 ?_
    refine p_lcmp dX7_isBeyond_6 ?_
    refine p_if_lt (tgt := 20) dX7_isBeyond_7 (by decide) (fun hc => ?_) (fun hc => ?_)
    · have hF := ok_t hc hF
      exact p_lv [] rfl (b_X7_isBeyond_20  _ hF)
    · have hF := ok_f hc hF
      refine p_iload_n rfl dX7_isBeyond_10 ?_
      refine p_i2l dX7_isBeyond_11 ?_
      refine p_lload_n rfl dX7_isBeyond_12 ?_
      refine p_ladd dX7_isBeyond_13 ?_
      refine p_iload_n rfl dX7_isBeyond_14 ?_
      refine p_i2l dX7_isBeyond_15 ?_
      refine p_lcmp dX7_isBeyond_16 ?_
      refine p_if_le (tgt := 24) dX7_isBeyond_17 (by decide) (fun hc => ?_) (fun hc => ?_)
      · have hF := ok_t hc hF
        refine p_iconst (v := 0) (by decide) dX7_isBeyond_24 ?_
        exact p_lv [] rfl (b_X7_isBeyond_25  _ _ hF)
      · have hF := ok_f hc hF
        exact p_lv [] rfl (b_X7_isBeyond_20  _ hF)
theorem b_X7_barred_96 {d : Nat} {Q : Option Value → Hp → Prop}  (vk0 : Int32) (sg : Hp) (hF : ok jI (B_X7_barred_96  vk0 sg) Q) : pw tM (d + 1) mX7_barred 96 [] [.int vk0] sg Q := by
  unfold B_X7_barred_96 at hF
  exact p_iret rfl dX7_barred_96 (ok_r (j := jI) hF)
theorem b_X7_barred_44 {d : Nat} {Q : Option Value → Hp → Prop}  (v1 : Int32) (v3 : Int32) (v4 : Int64) (sg : Hp) (hF : ok jI (B_X7_barred_44  v1 v3 v4 sg) Q) : pw tM (d + 1) mX7_barred 44 [(0, .ref 300), (1, .int v1), (3, .int v3), (4, .long v4)] [] sg Q := by
  unfold B_X7_barred_44 at hF
  refine p_aload_n rfl dX7_barred_44 ?_
  refine p_getR (c1 := 320) qF_RX7_43 rfl rfl dX7_barred_45 ?_
  refine p_iload_n rfl dX7_barred_48 ?_
  obtain ⟨hg, hF⟩ := ok_g hF
  refine p_iald rfl (inb_in hg) dX7_barred_49 ?_
  refine p_if_ge (tgt := 59) dX7_barred_50 (by decide) (fun hc => ?_) (fun hc => ?_)
  · have hF := ok_t hc hF
    refine p_lload rfl dX7_barred_59 ?_
    refine p_lconst (v := 0) (by decide) dX7_barred_61 ?_
    refine p_lcmp dX7_barred_62 ?_
    refine p_if_ge (tgt := 72) dX7_barred_63 (by decide) (fun hc => ?_) (fun hc => ?_)
    · have hF := ok_t hc hF
      refine p_iload_n rfl dX7_barred_72 ?_
      refine p_lload rfl dX7_barred_73 ?_
      refine p_aload_n rfl dX7_barred_75 ?_
      refine p_getR (c1 := 320) qF_RX7_43 rfl rfl dX7_barred_76 ?_
      refine p_iload_n rfl dX7_barred_79 ?_
      obtain ⟨hg, hF⟩ := ok_g hF
      refine p_iald rfl (inb_in hg) dX7_barred_80 ?_
      refine p_callS (av := [.int _, .long _, .int _]) qS_RX7_78 rfl (Nat.le_of_ble_eq_true rfl) (Nat.le_of_ble_eq_true rfl) dX7_barred_81 (tX7_isBeyond (ok_b hF)) (fun r0 s4 hF => ?_)
      obtain ⟨r3, rfl, hF⟩ := hF
      refine p_if_eq (tgt := 95) dX7_barred_84 (by decide) (fun hc => ?_) (fun hc => ?_)
      · have hF := ok_t hc hF
        refine p_iconst (v := 0) (by decide) dX7_barred_95 ?_
        exact p_lv [] rfl (b_X7_barred_96  _ _ hF)
      · have hF := ok_f hc hF
        refine p_aload_n rfl dX7_barred_87 ?_
        refine p_iconst (v := 3) (by decide) dX7_barred_88 ?_
        refine p_callV (c0 := 300) (av := [.int _]) qV_RX7_75 rfl rfl rfl rfl (Nat.le_of_ble_eq_true rfl) (Nat.le_of_ble_eq_true rfl) dX7_barred_89 (tX7_failed (ok_b hF)) (fun r0 s6 hF => ?_)
        obtain ⟨r5, rfl, hF⟩ := hF
        refine p_goto (tgt := 96) dX7_barred_92 (by decide) ?_
        exact p_lv [] rfl (b_X7_barred_96  _ _ hF)
    · have hF := ok_f hc hF
      refine p_aload_n rfl dX7_barred_66 ?_
      refine p_iconst (v := 4) (by decide) dX7_barred_67 ?_
      refine p_callV (c0 := 300) (av := [.int _]) qV_RX7_75 rfl rfl rfl rfl (Nat.le_of_ble_eq_true rfl) (Nat.le_of_ble_eq_true rfl) dX7_barred_68 (tX7_failed (ok_b hF)) (fun r0 s8 hF => ?_)
      obtain ⟨r7, rfl, hF⟩ := hF
      exact p_iret rfl dX7_barred_71 (ok_r (j := jI) hF)
  · have hF := ok_f hc hF
    refine p_aload_n rfl dX7_barred_53 ?_
    refine p_iconst (v := 1) (by decide) dX7_barred_54 ?_
    refine p_callV (c0 := 300) (av := [.int _]) qV_RX7_75 rfl rfl rfl rfl (Nat.le_of_ble_eq_true rfl) (Nat.le_of_ble_eq_true rfl) dX7_barred_55 (tX7_failed (ok_b hF)) (fun r0 s10 hF => ?_)
    obtain ⟨r9, rfl, hF⟩ := hF
    exact p_iret rfl dX7_barred_58 (ok_r (j := jI) hF)
theorem tX7_barred {d : Nat} (hd : 1 ≤ d) {Q : Option Value → Hp → Prop} {a1 : Int32} {a2 : Int32} {a3 : Int32} {a4 : Int64} {sg : Hp} (hF : ok jI (fX7_barred a1 a2 a3 a4 sg) Q) : pw tM d mX7_barred 0 (lv_args 0 [.ref 300, .int a1, .int a2, .int a3, .long a4]) [] sg Q := by
  unfold fX7_barred at hF
  obtain ⟨d, rfl⟩ : ∃ e, d = e + 1 := ⟨d - 1, by omega⟩
  show pw _ _ _ _ [(0, .ref 300), (1, .int a1), (2, .int a2), (3, .int a3), (4, .long a4)] [] _ _
  refine p_iload_n rfl dX7_barred_0 ?_
  refine p_i2l dX7_barred_1 ?_
  refine p_lconst (v := 0) (by decide) dX7_barred_2 ?_
  refine p_ldc2 wd_864 dX7_barred_3 ?_
  refine p_callS (av := [.long _, .long _, .long _]) qS_RX7_67 rfl (Nat.le_of_ble_eq_true rfl) (Nat.le_of_ble_eq_true rfl) dX7_barred_6 (tX7_in (ok_b hF)) (fun r0 s2 hF => ?_)
  obtain ⟨r1, rfl, hF⟩ := hF
  refine p_if_ne (tgt := 19) dX7_barred_9 (by decide) (fun hc => ?_) (fun hc => ?_)
  · have hF := ok_f hc hF
    refine p_aload_n rfl dX7_barred_19 ?_
    refine p_getR (c1 := 320) qF_RX7_43 rfl rfl dX7_barred_20 ?_
    refine p_iload_n rfl dX7_barred_23 ?_
    obtain ⟨hg, hF⟩ := ok_g hF
    refine p_iald rfl (inb_in hg) dX7_barred_24 ?_
    refine p_if_lt (tgt := 44) dX7_barred_25 (by decide) (fun hc => ?_) (fun hc => ?_)
    · have hF := ok_t hc hF
      exact p_lv [0, 1, 3, 4] rfl (b_X7_barred_44  _ _ _ _ hF)
    · have hF := ok_f hc hF
      refine p_aload_n rfl dX7_barred_28 ?_
      refine p_getR (c1 := 321) qF_RX7_46 rfl rfl dX7_barred_29 ?_
      refine p_iload_n rfl dX7_barred_32 ?_
      obtain ⟨hg, hF⟩ := ok_g hF
      refine p_iald rfl (inb_in hg) dX7_barred_33 ?_
      refine p_iload_n rfl dX7_barred_34 ?_
      refine p_icmp_eq (tgt := 44) dX7_barred_35 (by decide) (fun hc => ?_) (fun hc => ?_)
      · have hF := ok_t hc hF
        exact p_lv [0, 1, 3, 4] rfl (b_X7_barred_44  _ _ _ _ hF)
      · have hF := ok_f hc hF
        refine p_aload_n rfl dX7_barred_38 ?_
        refine p_iconst (v := 2) (by decide) dX7_barred_39 ?_
        refine p_callV (c0 := 300) (av := [.int _]) qV_RX7_75 rfl rfl rfl rfl (Nat.le_of_ble_eq_true rfl) (Nat.le_of_ble_eq_true rfl) dX7_barred_40 (tX7_failed (ok_b hF)) (fun r0 s12 hF => ?_)
        obtain ⟨r11, rfl, hF⟩ := hF
        exact p_iret rfl dX7_barred_43 (ok_r (j := jI) hF)
  · have hF := ok_t hc hF
    refine p_aload_n rfl dX7_barred_12 ?_
    refine p_bipush (v := -2) (by decide) dX7_barred_13 ?_
    refine p_callV (c0 := 300) (av := [.int _]) qV_RX7_71 rfl rfl rfl rfl (Nat.le_of_ble_eq_true rfl) (Nat.le_of_ble_eq_true rfl) dX7_barred_15 (tX7_refused (ok_b hF)) (fun r0 s14 hF => ?_)
    obtain ⟨r13, rfl, hF⟩ := hF
    exact p_iret rfl dX7_barred_18 (ok_r (j := jI) hF)
theorem b_X7_noStair_21 {d : Nat} {Q : Option Value → Hp → Prop}  (vk0 : Int32) (sg : Hp) (hF : ok jI (B_X7_noStair_21  vk0 sg) Q) : pw tM (d + 1) mX7_noStair 21 [] [.int vk0] sg Q := by
  unfold B_X7_noStair_21 at hF
  obtain ⟨hg, hF⟩ := ok_g hF
  exact p_zret rfl (b01_n hg).1 dX7_noStair_21 (ok_r (j := jI) hF)
theorem tX7_noStair {d : Nat} (hd : 1 ≤ d) {Q : Option Value → Hp → Prop} {a1 : Int32} {sg : Hp} (hF : ok jI (fX7_noStair a1 sg) Q) : pw tM d mX7_noStair 0 (lv_args 0 [.ref 300, .int a1]) [] sg Q := by
  unfold fX7_noStair at hF
  obtain ⟨d, rfl⟩ : ∃ e, d = e + 1 := ⟨d - 1, by omega⟩
  show pw _ _ _ _ [(0, .ref 300), (1, .int a1)] [] _ _
  refine p_iload_n rfl dX7_noStair_0 ?_
  refine p_i2l dX7_noStair_1 ?_
  refine p_lconst (v := 0) (by decide) dX7_noStair_2 ?_
  refine p_aload_n rfl dX7_noStair_3 ?_
  refine p_getI qF_RX7_82 rfl rfl dX7_noStair_4 ?_
  refine p_i2l dX7_noStair_7 ?_
  refine p_lconst (v := 1) (by decide) dX7_noStair_8 ?_
  refine p_lsub dX7_noStair_9 ?_
  refine p_callS (av := [.long _, .long _, .long _]) qS_RX7_67 rfl (Nat.le_of_ble_eq_true rfl) (Nat.le_of_ble_eq_true rfl) dX7_noStair_10 (tX7_in (ok_b hF)) (fun r0 s2 hF => ?_)
  obtain ⟨r1, rfl, hF⟩ := hF
  refine p_if_ne (tgt := 20) dX7_noStair_13 (by decide) (fun hc => ?_) (fun hc => ?_)
  · have hF := ok_f hc hF
    refine p_iconst (v := 0) (by decide) dX7_noStair_20 ?_
    exact p_lv [] rfl (b_X7_noStair_21  _ _ hF)
  · have hF := ok_t hc hF
    refine p_iconst (v := 1) (by decide) dX7_noStair_16 ?_
    refine p_goto (tgt := 21) dX7_noStair_17 (by decide) ?_
    exact p_lv [] rfl (b_X7_noStair_21  _ _ hF)
theorem tX7_of {d : Nat} {Q : Option Value → Hp → Prop} {a1 : Int32} {a2 : Int32} {sg : Hp} (hF : ok jI (fX7_of a1 a2 sg) Q) : pw tM d mX7_of 0 (lv_args 0 [.ref 300, .int a1, .int a2]) [] sg Q := by
  unfold fX7_of at hF
  show pw _ _ _ _ [(0, .ref 300), (1, .int a1), (2, .int a2)] [] _ _
  refine p_aload_n rfl dX7_of_0 ?_
  refine p_getR (c1 := 303) qF_RX7_13 rfl rfl dX7_of_1 ?_
  refine p_bipush (v := 41) (by decide) dX7_of_4 ?_
  refine p_iload_n rfl dX7_of_6 ?_
  refine p_imul dX7_of_7 ?_
  refine p_iload_n rfl dX7_of_8 ?_
  refine p_iadd dX7_of_9 ?_
  obtain ⟨hg, hF⟩ := ok_g hF
  refine p_iald rfl (inb_in hg) dX7_of_10 ?_
  exact p_iret rfl dX7_of_11 (ok_r (j := jI) hF)
theorem b_X7_set_25 {d : Nat} {Q : Option Value → Hp → Prop}  (vk0 : Int32) (vk1 : Int32) (sg : Hp) (hF : ok jV (B_X7_set_25  vk0 vk1 sg) Q) : pw tM d mX7_set 25 [] [.int vk0, .int vk1, .ref 303] sg Q := by
  unfold B_X7_set_25 at hF
  obtain ⟨hg, hF⟩ := ok_g hF
  refine p_iast rfl (inb_in hg) dX7_set_25 ?_
  exact p_vret rfl dX7_set_26 (ok_r (j := jV) hF)
theorem tX7_set {d : Nat} {Q : Option Value → Hp → Prop} {a1 : Int32} {a2 : Int32} {a3 : Int64} {sg : Hp} (hF : ok jV (fX7_set a1 a2 a3 sg) Q) : pw tM d mX7_set 0 (lv_args 0 [.ref 300, .int a1, .int a2, .long a3]) [] sg Q := by
  unfold fX7_set at hF
  show pw _ _ _ _ [(0, .ref 300), (1, .int a1), (2, .int a2), (3, .long a3)] [] _ _
  refine p_aload_n rfl dX7_set_0 ?_
  refine p_getR (c1 := 303) qF_RX7_13 rfl rfl dX7_set_1 ?_
  refine p_bipush (v := 41) (by decide) dX7_set_4 ?_
  refine p_iload_n rfl dX7_set_6 ?_
  refine p_imul dX7_set_7 ?_
  refine p_iload_n rfl dX7_set_8 ?_
  refine p_iadd dX7_set_9 ?_
  refine p_lload_n rfl dX7_set_10 ?_
  refine p_ldc2 wd_882 dX7_set_11 ?_
  refine p_lcmp dX7_set_14 ?_
  refine p_if_le (tgt := 23) dX7_set_15 (by decide) (fun hc => ?_) (fun hc => ?_)
  · have hF := ok_t hc hF
    refine p_lload_n rfl dX7_set_23 ?_
    refine p_l2i dX7_set_24 ?_
    exact p_lv [] rfl (b_X7_set_25  _ _ _ hF)
  · have hF := ok_f hc hF
    refine p_ldc wd_883 dX7_set_18 ?_
    refine p_goto (tgt := 25) dX7_set_20 (by decide) ?_
    exact p_lv [] rfl (b_X7_set_25  _ _ _ hF)
theorem tX7_keep {d : Nat} {Q : Option Value → Hp → Prop} {a1 : Int32} {sg : Hp} (hF : ok jI (fX7_keep a1 sg) Q) : pw tM d mX7_keep 0 (lv_args 0 [.ref 300, .int a1]) [] sg Q := by
  unfold fX7_keep at hF
  show pw _ _ _ _ [(0, .ref 300), (1, .int a1)] [] _ _
  refine p_aload_n rfl dX7_keep_0 ?_
  refine p_getR (c1 := 302) qF_RX7_7 rfl rfl dX7_keep_1 ?_
  refine p_aload_n rfl dX7_keep_4 ?_
  refine p_getI qF_RX7_82 rfl rfl dX7_keep_5 ?_
  refine p_iload_n rfl dX7_keep_8 ?_
  obtain ⟨hg, hF⟩ := ok_g hF
  refine p_iast rfl (inb_in hg) dX7_keep_9 ?_
  refine p_aload_n rfl dX7_keep_10 ?_
  refine p_dup rfl dX7_keep_11 ?_
  refine p_getI qF_RX7_82 rfl rfl dX7_keep_12 ?_
  refine p_iconst (v := 1) (by decide) dX7_keep_15 ?_
  refine p_iadd dX7_keep_16 ?_
  refine p_put qF_RX7_82 qP_6_1 rfl rfl rfl rfl dX7_keep_17 ?_
  refine p_aload_n rfl dX7_keep_20 ?_
  refine p_getI qF_RX7_82 rfl rfl dX7_keep_21 ?_
  refine p_iconst (v := 1) (by decide) dX7_keep_24 ?_
  refine p_isub dX7_keep_25 ?_
  exact p_iret rfl dX7_keep_26 (ok_r (j := jI) hF)
theorem b_X7_layBucket_30 {d : Nat} {Q : Option Value → Hp → Prop} {k3 : Int32 → Int32 → Int32 → Int32 → Hp → Option (Unit × Hp)} (hk3 : ∀ (z1 : Int32) (z2 : Int32) (z3 : Int32) (z4 : Int32) (s2 : Hp), ok jV (k3 z1 z2 z3 z4 s2) Q → pw tM (d + 1) mX7_layBucket 3 [(0, .ref 300), (1, .int z1), (2, .int z2), (3, .int z3), (4, .int z4)] [] s2 Q) (v1 : Int32) (v2 : Int32) (v3 : Int32) (v4 : Int32) (vk0 : Int64) (vk1 : Int32) (vk2 : Int32) (sg : Hp) (hF : ok jV (B_X7_layBucket_30 k3 v1 v2 v3 v4 vk0 vk1 vk2 sg) Q) : pw tM (d + 1) mX7_layBucket 30 [(0, .ref 300), (1, .int v1), (2, .int v2), (3, .int v3), (4, .int v4)] [.long vk0, .int vk1, .int vk2, .ref 300] sg Q := by
  unfold B_X7_layBucket_30 at hF
  refine p_callV (c0 := 300) (av := [.int _, .int _, .long _]) qV_RX7_88 rfl rfl rfl rfl (Nat.le_of_ble_eq_true rfl) (Nat.le_of_ble_eq_true rfl) dX7_layBucket_30 (tX7_set (ok_b hF)) (fun r0 s2 hF => ?_)
  obtain ⟨r1, rfl, hF⟩ := hF
  refine p_iinc (w := 1) (by decide) rfl (Nat.le_of_ble_eq_true rfl) rfl dX7_layBucket_33 ?_
  refine p_goto (tgt := 3) dX7_layBucket_36 (by decide) ?_
  exact p_lv [0, 1, 2, 3, 4] rfl (hk3 _ _ _ _ _ hF)
theorem l_X7_layBucket_3 {d : Nat} {Q : Option Value → Hp → Prop} {k39 : Hp → Option (Unit × Hp)} (hk39 : ∀ (s2 : Hp), ok jV (k39 s2) Q → pw tM (d + 1) mX7_layBucket 39 [] [] s2 Q) : ∀ (n : Nat) (v1 : Int32) (v2 : Int32) (v3 : Int32) (v4 : Int32) (sg : Hp), ok jV (L_X7_layBucket_3 k39 n v1 v2 v3 v4 sg) Q → pw tM (d + 1) mX7_layBucket 3 [(0, .ref 300), (1, .int v1), (2, .int v2), (3, .int v3), (4, .int v4)] [] sg Q := by
  intro n
  induction n with
  | zero =>
    intro v1 v2 v3 v4 sg hF
    obtain ⟨_, _, h9, _⟩ := hF
    cases h9
  | succ n ih =>
    intro v1 v2 v3 v4 sg hF
    refine p_iload rfl dX7_layBucket_3 ?_
    refine p_bipush (v := 41) (by decide) dX7_layBucket_5 ?_
    refine p_icmp_ge (tgt := 39) dX7_layBucket_7 (by decide) (fun hc => ?_) (fun hc => ?_)
    · have hF := ok_t hc hF
      exact p_lv [] rfl (hk39 _ hF)
    · have hF := ok_f hc hF
      refine p_aload_n rfl dX7_layBucket_10 ?_
      refine p_iload_n rfl dX7_layBucket_11 ?_
      refine p_iload rfl dX7_layBucket_12 ?_
      refine p_iload rfl dX7_layBucket_14 ?_
      refine p_if_ne (tgt := 23) dX7_layBucket_16 (by decide) (fun hc => ?_) (fun hc => ?_)
      · have hF := ok_f hc hF
        refine p_iload_n rfl dX7_layBucket_23 ?_
        refine p_iload_n rfl dX7_layBucket_24 ?_
        refine p_iload rfl dX7_layBucket_25 ?_
        refine p_imul dX7_layBucket_27 ?_
        refine p_iadd dX7_layBucket_28 ?_
        refine p_i2l dX7_layBucket_29 ?_
        exact p_lv [0, 1, 2, 3, 4] rfl (b_X7_layBucket_30 ih _ _ _ _ _ _ _ _ hF)
      · have hF := ok_t hc hF
        refine p_lconst (v := 0) (by decide) dX7_layBucket_19 ?_
        refine p_goto (tgt := 30) dX7_layBucket_20 (by decide) ?_
        exact p_lv [0, 1, 2, 3, 4] rfl (b_X7_layBucket_30 ih _ _ _ _ _ _ _ _ hF)
theorem tX7_layBucket {d : Nat} (hd : 1 ≤ d) {Q : Option Value → Hp → Prop} {a1 : Int32} {a2 : Int32} {a3 : Int32} {sg : Hp} (hF : ok jV (fX7_layBucket a1 a2 a3 sg) Q) : pw tM d mX7_layBucket 0 (lv_args 0 [.ref 300, .int a1, .int a2, .int a3]) [] sg Q := by
  unfold fX7_layBucket at hF
  obtain ⟨d, rfl⟩ : ∃ e, d = e + 1 := ⟨d - 1, by omega⟩
  show pw _ _ _ _ [(0, .ref 300), (1, .int a1), (2, .int a2), (3, .int a3)] [] _ _
  refine p_iconst (v := 0) (by decide) dX7_layBucket_0 ?_
  refine p_istore (Nat.le_of_ble_eq_true rfl) rfl dX7_layBucket_1 ?_
  refine p_lv [0, 1, 2, 3, 4] rfl (l_X7_layBucket_3 ?_ 200 _ _ _ _ _ hF)
  intro s4 hF
  exact p_vret rfl dX7_layBucket_39 (ok_r (j := jV) hF)
theorem b_X7_layLate_31 {d : Nat} {Q : Option Value → Hp → Prop} {k3 : Int32 → Int32 → Int32 → Int32 → Hp → Option (Unit × Hp)} (hk3 : ∀ (z1 : Int32) (z2 : Int32) (z3 : Int32) (z4 : Int32) (s2 : Hp), ok jV (k3 z1 z2 z3 z4 s2) Q → pw tM (d + 1) mX7_layLate 3 [(0, .ref 300), (1, .int z1), (2, .int z2), (3, .int z3), (4, .int z4)] [] s2 Q) (v1 : Int32) (v2 : Int32) (v3 : Int32) (v4 : Int32) (vk0 : Int64) (vk1 : Int32) (vk2 : Int32) (sg : Hp) (hF : ok jV (B_X7_layLate_31 k3 v1 v2 v3 v4 vk0 vk1 vk2 sg) Q) : pw tM (d + 1) mX7_layLate 31 [(0, .ref 300), (1, .int v1), (2, .int v2), (3, .int v3), (4, .int v4)] [.long vk0, .int vk1, .int vk2, .ref 300] sg Q := by
  unfold B_X7_layLate_31 at hF
  refine p_callV (c0 := 300) (av := [.int _, .int _, .long _]) qV_RX7_88 rfl rfl rfl rfl (Nat.le_of_ble_eq_true rfl) (Nat.le_of_ble_eq_true rfl) dX7_layLate_31 (tX7_set (ok_b hF)) (fun r0 s2 hF => ?_)
  obtain ⟨r1, rfl, hF⟩ := hF
  refine p_iinc (w := 1) (by decide) rfl (Nat.le_of_ble_eq_true rfl) rfl dX7_layLate_34 ?_
  refine p_goto (tgt := 3) dX7_layLate_37 (by decide) ?_
  exact p_lv [0, 1, 2, 3, 4] rfl (hk3 _ _ _ _ _ hF)
theorem l_X7_layLate_3 {d : Nat} {Q : Option Value → Hp → Prop} {k40 : Hp → Option (Unit × Hp)} (hk40 : ∀ (s2 : Hp), ok jV (k40 s2) Q → pw tM (d + 1) mX7_layLate 40 [] [] s2 Q) : ∀ (n : Nat) (v1 : Int32) (v2 : Int32) (v3 : Int32) (v4 : Int32) (sg : Hp), ok jV (L_X7_layLate_3 k40 n v1 v2 v3 v4 sg) Q → pw tM (d + 1) mX7_layLate 3 [(0, .ref 300), (1, .int v1), (2, .int v2), (3, .int v3), (4, .int v4)] [] sg Q := by
  intro n
  induction n with
  | zero =>
    intro v1 v2 v3 v4 sg hF
    obtain ⟨_, _, h9, _⟩ := hF
    cases h9
  | succ n ih =>
    intro v1 v2 v3 v4 sg hF
    refine p_iload rfl dX7_layLate_3 ?_
    refine p_bipush (v := 41) (by decide) dX7_layLate_5 ?_
    refine p_icmp_ge (tgt := 40) dX7_layLate_7 (by decide) (fun hc => ?_) (fun hc => ?_)
    · have hF := ok_t hc hF
      exact p_lv [] rfl (hk40 _ hF)
    · have hF := ok_f hc hF
      refine p_aload_n rfl dX7_layLate_10 ?_
      refine p_iload_n rfl dX7_layLate_11 ?_
      refine p_iload rfl dX7_layLate_12 ?_
      refine p_iload rfl dX7_layLate_14 ?_
      refine p_iload_n rfl dX7_layLate_16 ?_
      refine p_icmp_ge (tgt := 24) dX7_layLate_17 (by decide) (fun hc => ?_) (fun hc => ?_)
      · have hF := ok_t hc hF
        refine p_iload_n rfl dX7_layLate_24 ?_
        refine p_iload rfl dX7_layLate_25 ?_
        refine p_iload_n rfl dX7_layLate_27 ?_
        refine p_isub dX7_layLate_28 ?_
        refine p_imul dX7_layLate_29 ?_
        refine p_i2l dX7_layLate_30 ?_
        exact p_lv [0, 1, 2, 3, 4] rfl (b_X7_layLate_31 ih _ _ _ _ _ _ _ _ hF)
      · have hF := ok_f hc hF
        refine p_lconst (v := 0) (by decide) dX7_layLate_20 ?_
        refine p_goto (tgt := 31) dX7_layLate_21 (by decide) ?_
        exact p_lv [0, 1, 2, 3, 4] rfl (b_X7_layLate_31 ih _ _ _ _ _ _ _ _ hF)
theorem tX7_layLate {d : Nat} (hd : 1 ≤ d) {Q : Option Value → Hp → Prop} {a1 : Int32} {a2 : Int32} {a3 : Int32} {sg : Hp} (hF : ok jV (fX7_layLate a1 a2 a3 sg) Q) : pw tM d mX7_layLate 0 (lv_args 0 [.ref 300, .int a1, .int a2, .int a3]) [] sg Q := by
  unfold fX7_layLate at hF
  obtain ⟨d, rfl⟩ : ∃ e, d = e + 1 := ⟨d - 1, by omega⟩
  show pw _ _ _ _ [(0, .ref 300), (1, .int a1), (2, .int a2), (3, .int a3)] [] _ _
  refine p_iconst (v := 0) (by decide) dX7_layLate_0 ?_
  refine p_istore (Nat.le_of_ble_eq_true rfl) rfl dX7_layLate_1 ?_
  refine p_lv [0, 1, 2, 3, 4] rfl (l_X7_layLate_3 ?_ 200 _ _ _ _ _ hF)
  intro s4 hF
  exact p_vret rfl dX7_layLate_40 (ok_r (j := jV) hF)
theorem l_X7_areSteps_13 {d : Nat} {Q : Option Value → Hp → Prop} {k47 : Int32 → Hp → Option (Int32 × Hp)} (hk47 : ∀ (z3 : Int32) (s2 : Hp), ok jI (k47 z3 s2) Q → pw tM (d + 1) mX7_areSteps 47 [(3, .int z3)] [] s2 Q) : ∀ (n : Nat) (v1 : Int32) (v2 : Int32) (v3 : Int32) (v4 : Int32) (sg : Hp), ok jI (L_X7_areSteps_13 k47 n v1 v2 v3 v4 sg) Q → pw tM (d + 1) mX7_areSteps 13 [(0, .ref 300), (1, .int v1), (2, .int v2), (3, .int v3), (4, .int v4)] [] sg Q := by
  intro n
  induction n with
  | zero =>
    intro v1 v2 v3 v4 sg hF
    obtain ⟨_, _, h9, _⟩ := hF
    cases h9
  | succ n ih =>
    intro v1 v2 v3 v4 sg hF
    refine p_iload rfl dX7_areSteps_13 ?_
    refine p_iload_n rfl dX7_areSteps_15 ?_
    refine p_icmp_ge (tgt := 47) dX7_areSteps_16 (by decide) (fun hc => ?_) (fun hc => ?_)
    · have hF := ok_t hc hF
      exact p_lv [3] rfl (hk47 _ _ hF)
    · have hF := ok_f hc hF
      refine p_iload_n rfl dX7_areSteps_19 ?_
      refine p_if_eq (tgt := 47) dX7_areSteps_20 (by decide) (fun hc => ?_) (fun hc => ?_)
      · have hF := ok_t hc hF
        exact p_lv [3] rfl (hk47 _ _ hF)
      · have hF := ok_f hc hF
        refine p_aload_n rfl dX7_areSteps_23 ?_
        refine p_getR (c1 := 322) qF_RX7_49 rfl rfl dX7_areSteps_24 ?_
        refine p_iload_n rfl dX7_areSteps_27 ?_
        refine p_iload rfl dX7_areSteps_28 ?_
        refine p_iadd dX7_areSteps_30 ?_
        obtain ⟨hg, hF⟩ := ok_g hF
        refine p_iald rfl (inb_in hg) dX7_areSteps_31 ?_
        refine p_i2l dX7_areSteps_32 ?_
        refine p_lconst (v := 0) (by decide) dX7_areSteps_33 ?_
        refine p_ldc2 wd_877 dX7_areSteps_34 ?_
        refine p_callS (av := [.long _, .long _, .long _]) qS_RX7_67 rfl (Nat.le_of_ble_eq_true rfl) (Nat.le_of_ble_eq_true rfl) dX7_areSteps_37 (tX7_in (ok_b hF)) (fun r0 s4 hF => ?_)
        obtain ⟨r3, rfl, hF⟩ := hF
        refine p_istore_n (Nat.le_of_ble_eq_true rfl) rfl dX7_areSteps_40 ?_
        refine p_iinc (w := 1) (by decide) rfl (Nat.le_of_ble_eq_true rfl) rfl dX7_areSteps_41 ?_
        refine p_goto (tgt := 13) dX7_areSteps_44 (by decide) ?_
        exact p_lv [0, 1, 2, 3, 4] rfl (ih _ _ _ _ _ hF)
theorem tX7_areSteps {d : Nat} (hd : 1 ≤ d) {Q : Option Value → Hp → Prop} {a1 : Int32} {a2 : Int32} {sg : Hp} (hF : ok jI (fX7_areSteps a1 a2 sg) Q) : pw tM d mX7_areSteps 0 (lv_args 0 [.ref 300, .int a1, .int a2]) [] sg Q := by
  unfold fX7_areSteps at hF
  obtain ⟨d, rfl⟩ : ∃ e, d = e + 1 := ⟨d - 1, by omega⟩
  show pw _ _ _ _ [(0, .ref 300), (1, .int a1), (2, .int a2)] [] _ _
  refine p_iload_n rfl dX7_areSteps_0 ?_
  refine p_i2l dX7_areSteps_1 ?_
  refine p_lconst (v := 1) (by decide) dX7_areSteps_2 ?_
  refine p_ldc2 wd_876 dX7_areSteps_3 ?_
  refine p_callS (av := [.long _, .long _, .long _]) qS_RX7_67 rfl (Nat.le_of_ble_eq_true rfl) (Nat.le_of_ble_eq_true rfl) dX7_areSteps_6 (tX7_in (ok_b hF)) (fun r0 s2 hF => ?_)
  obtain ⟨r1, rfl, hF⟩ := hF
  refine p_istore_n (Nat.le_of_ble_eq_true rfl) rfl dX7_areSteps_9 ?_
  refine p_iconst (v := 0) (by decide) dX7_areSteps_10 ?_
  refine p_istore (Nat.le_of_ble_eq_true rfl) rfl dX7_areSteps_11 ?_
  refine p_lv [0, 1, 2, 3, 4] rfl (l_X7_areSteps_13 ?_ 200 _ _ _ _ _ hF)
  intro w5_3 s6 hF
  refine p_iload_n rfl dX7_areSteps_47 ?_
  obtain ⟨hg, hF⟩ := ok_g hF
  exact p_zret rfl (b01_n hg).1 dX7_areSteps_48 (ok_r (j := jI) hF)
theorem b_X7_noSheet_17 {d : Nat} {Q : Option Value → Hp → Prop}  (vk0 : Int32) (sg : Hp) (hF : ok jI (B_X7_noSheet_17  vk0 sg) Q) : pw tM (d + 1) mX7_noSheet 17 [] [.int vk0] sg Q := by
  unfold B_X7_noSheet_17 at hF
  obtain ⟨hg, hF⟩ := ok_g hF
  exact p_zret rfl (b01_n hg).1 dX7_noSheet_17 (ok_r (j := jI) hF)
theorem tX7_noSheet {d : Nat} (hd : 1 ≤ d) {Q : Option Value → Hp → Prop} {a1 : Int32} {sg : Hp} (hF : ok jI (fX7_noSheet a1 sg) Q) : pw tM d mX7_noSheet 0 (lv_args 0 [.int a1]) [] sg Q := by
  unfold fX7_noSheet at hF
  obtain ⟨d, rfl⟩ : ∃ e, d = e + 1 := ⟨d - 1, by omega⟩
  show pw _ _ _ _ [(0, .int a1)] [] _ _
  refine p_iload_n rfl dX7_noSheet_0 ?_
  refine p_i2l dX7_noSheet_1 ?_
  refine p_lconst (v := 0) (by decide) dX7_noSheet_2 ?_
  refine p_ldc2 wd_852 dX7_noSheet_3 ?_
  refine p_callS (av := [.long _, .long _, .long _]) qS_RX7_67 rfl (Nat.le_of_ble_eq_true rfl) (Nat.le_of_ble_eq_true rfl) dX7_noSheet_6 (tX7_in (ok_b hF)) (fun r0 s2 hF => ?_)
  obtain ⟨r1, rfl, hF⟩ := hF
  refine p_if_ne (tgt := 16) dX7_noSheet_9 (by decide) (fun hc => ?_) (fun hc => ?_)
  · have hF := ok_f hc hF
    refine p_iconst (v := 0) (by decide) dX7_noSheet_16 ?_
    exact p_lv [] rfl (b_X7_noSheet_17  _ _ hF)
  · have hF := ok_t hc hF
    refine p_iconst (v := 1) (by decide) dX7_noSheet_12 ?_
    refine p_goto (tgt := 17) dX7_noSheet_13 (by decide) ?_
    exact p_lv [] rfl (b_X7_noSheet_17  _ _ hF)
theorem l_X7_steps_88 {d : Nat} (hd : 1 ≤ d) {Q : Option Value → Hp → Prop} {k142 : Hp → Option (Int32 × Hp)} (hk142 : ∀ (s2 : Hp), ok jI (k142 s2) Q → pw tM (d + 1) mX7_steps 142 [(0, .ref 300)] [] s2 Q) : ∀ (n : Nat) (v4 : Int32) (v6 : Int32) (v7 : Int32) (sg : Hp), ok jI (L_X7_steps_88 k142 n v4 v6 v7 sg) Q → pw tM (d + 1) mX7_steps 88 [(0, .ref 300), (4, .int v4), (6, .int v6), (7, .int v7)] [] sg Q := by
  intro n
  induction n with
  | zero =>
    intro v4 v6 v7 sg hF
    obtain ⟨_, _, h9, _⟩ := hF
    cases h9
  | succ n ih =>
    intro v4 v6 v7 sg hF
    refine p_iload rfl dX7_steps_88 ?_
    refine p_bipush (v := 41) (by decide) dX7_steps_90 ?_
    refine p_icmp_ge (tgt := 142) dX7_steps_92 (by decide) (fun hc => ?_) (fun hc => ?_)
    · have hF := ok_t hc hF
      exact p_lv [0] rfl (hk142 _ hF)
    · have hF := ok_f hc hF
      refine p_aload_n rfl dX7_steps_95 ?_
      refine p_aload_n rfl dX7_steps_96 ?_
      refine p_getI qF_RX7_82 rfl rfl dX7_steps_97 ?_
      refine p_iload rfl dX7_steps_100 ?_
      refine p_aload_n rfl dX7_steps_102 ?_
      refine p_aload_n rfl dX7_steps_103 ?_
      refine p_getI qF_RX7_82 rfl rfl dX7_steps_104 ?_
      refine p_iload rfl dX7_steps_107 ?_
      refine p_iconst (v := 1) (by decide) dX7_steps_109 ?_
      refine p_isub dX7_steps_110 ?_
      refine p_callV (c0 := 300) (av := [.int _, .int _]) qV_RX7_108 rfl rfl rfl rfl (Nat.le_of_ble_eq_true rfl) (Nat.le_of_ble_eq_true rfl) dX7_steps_111 (tX7_of (ok_b hF)) (fun r0 s10 hF => ?_)
      obtain ⟨r9, rfl, hF⟩ := hF
      refine p_aload_n rfl dX7_steps_114 ?_
      refine p_getR (c1 := 322) qF_RX7_49 rfl rfl dX7_steps_115 ?_
      refine p_iload rfl dX7_steps_118 ?_
      refine p_iload rfl dX7_steps_120 ?_
      refine p_iload rfl dX7_steps_122 ?_
      refine p_callS (av := [.int _, .int _]) qS_RX7_112 rfl (Nat.le_of_ble_eq_true rfl) (Nat.le_of_ble_eq_true rfl) dX7_steps_124 (tX7_lesser (ok_b hF)) (fun r0 s12 hF => ?_)
      obtain ⟨r11, rfl, hF⟩ := hF
      refine p_iadd dX7_steps_127 ?_
      refine p_iconst (v := 1) (by decide) dX7_steps_128 ?_
      refine p_isub dX7_steps_129 ?_
      obtain ⟨hg, hF⟩ := ok_g hF
      refine p_iald rfl (inb_in hg) dX7_steps_130 ?_
      refine p_iadd dX7_steps_131 ?_
      refine p_i2l dX7_steps_132 ?_
      refine p_callV (c0 := 300) (av := [.int _, .int _, .long _]) qV_RX7_88 rfl rfl rfl rfl (Nat.le_of_ble_eq_true rfl) (Nat.le_of_ble_eq_true rfl) dX7_steps_133 (tX7_set (ok_b hF)) (fun r0 s14 hF => ?_)
      obtain ⟨r13, rfl, hF⟩ := hF
      refine p_iinc (w := 1) (by decide) rfl (Nat.le_of_ble_eq_true rfl) rfl dX7_steps_136 ?_
      refine p_goto (tgt := 88) dX7_steps_139 (by decide) ?_
      exact p_lv [0, 4, 6, 7] rfl (ih _ _ _ _ hF)
theorem tX7_steps {d : Nat} (hd : 2 ≤ d) {Q : Option Value → Hp → Prop} {a1 : Int32} {a2 : Int32} {a3 : Int32} {a4 : Int32} {sg : Hp} (hF : ok jI (fX7_steps a1 a2 a3 a4 sg) Q) : pw tM d mX7_steps 0 (lv_args 0 [.ref 300, .int a1, .int a2, .int a3, .int a4]) [] sg Q := by
  unfold fX7_steps at hF
  obtain ⟨d, rfl⟩ : ∃ e, d = e + 1 := ⟨d - 1, by omega⟩
  have hd : 1 ≤ d := by omega
  show pw _ _ _ _ [(0, .ref 300), (1, .int a1), (2, .int a2), (3, .int a3), (4, .int a4)] [] _ _
  refine p_iload_n rfl dX7_steps_0 ?_
  refine p_callS (av := [.int _]) qS_RX7_96 rfl (Nat.le_of_ble_eq_true rfl) (Nat.le_of_ble_eq_true rfl) dX7_steps_1 (tX7_noSheet (by omega) (ok_b hF)) (fun r0 s2 hF => ?_)
  obtain ⟨r1, rfl, hF⟩ := hF
  refine p_if_eq (tgt := 13) dX7_steps_4 (by decide) (fun hc => ?_) (fun hc => ?_)
  · have hF := ok_t hc hF
    refine p_aload_n rfl dX7_steps_13 ?_
    refine p_iload_n rfl dX7_steps_14 ?_
    refine p_iload_n rfl dX7_steps_15 ?_
    refine p_iload_n rfl dX7_steps_16 ?_
    refine p_iload rfl dX7_steps_17 ?_
    refine p_i2l dX7_steps_19 ?_
    refine p_callV (c0 := 300) (av := [.int _, .int _, .int _, .long _]) qV_RX7_100 rfl rfl rfl rfl (Nat.le_of_ble_eq_true rfl) (Nat.le_of_ble_eq_true rfl) dX7_steps_20 (tX7_barred (by omega) (ok_b hF)) (fun r0 s4 hF => ?_)
    obtain ⟨r3, rfl, hF⟩ := hF
    refine p_istore (Nat.le_of_ble_eq_true rfl) rfl dX7_steps_23 ?_
    refine p_iload rfl dX7_steps_25 ?_
    refine p_if_ge (tgt := 33) dX7_steps_27 (by decide) (fun hc => ?_) (fun hc => ?_)
    · have hF := ok_t hc hF
      refine p_bipush (v := 60) (by decide) dX7_steps_33 ?_
      refine p_iload_n rfl dX7_steps_35 ?_
      refine p_imul dX7_steps_36 ?_
      refine p_iload_n rfl dX7_steps_37 ?_
      refine p_iadd dX7_steps_38 ?_
      refine p_istore (Nat.le_of_ble_eq_true rfl) rfl dX7_steps_39 ?_
      refine p_aload_n rfl dX7_steps_41 ?_
      refine p_iload rfl dX7_steps_42 ?_
      refine p_iload rfl dX7_steps_44 ?_
      refine p_callV (c0 := 300) (av := [.int _, .int _]) qV_RX7_104 rfl rfl rfl rfl (Nat.le_of_ble_eq_true rfl) (Nat.le_of_ble_eq_true rfl) dX7_steps_46 (tX7_areSteps (by omega) (ok_b hF)) (fun r0 s6 hF => ?_)
      obtain ⟨r5, rfl, hF⟩ := hF
      refine p_if_ne (tgt := 59) dX7_steps_49 (by decide) (fun hc => ?_) (fun hc => ?_)
      · have hF := ok_f hc hF
        refine p_aload_n rfl dX7_steps_59 ?_
        refine p_getI qF_RX7_82 rfl rfl dX7_steps_60 ?_
        refine p_bipush (v := 24) (by decide) dX7_steps_63 ?_
        refine p_icmp_ne (tgt := 75) dX7_steps_65 (by decide) (fun hc => ?_) (fun hc => ?_)
        · have hF := ok_f hc hF
          refine p_aload_n rfl dX7_steps_75 ?_
          refine p_aload_n rfl dX7_steps_76 ?_
          refine p_getI qF_RX7_82 rfl rfl dX7_steps_77 ?_
          refine p_iconst (v := 0) (by decide) dX7_steps_80 ?_
          refine p_lconst (v := 0) (by decide) dX7_steps_81 ?_
          refine p_callV (c0 := 300) (av := [.int _, .int _, .long _]) qV_RX7_88 rfl rfl rfl rfl (Nat.le_of_ble_eq_true rfl) (Nat.le_of_ble_eq_true rfl) dX7_steps_82 (tX7_set (ok_b hF)) (fun r0 s8 hF => ?_)
          obtain ⟨r7, rfl, hF⟩ := hF
          refine p_iconst (v := 1) (by decide) dX7_steps_85 ?_
          refine p_istore (Nat.le_of_ble_eq_true rfl) rfl dX7_steps_86 ?_
          refine p_lv [0, 4, 6, 7] rfl (l_X7_steps_88 hd ?_ 200 _ _ _ _ hF)
          intro s16 hF
          refine p_aload_n rfl dX7_steps_142 ?_
          refine p_aload_n rfl dX7_steps_143 ?_
          refine p_iconst (v := 0) (by decide) dX7_steps_144 ?_
          refine p_callV (c0 := 300) (av := [.int _]) qV_RX7_115 rfl rfl rfl rfl (Nat.le_of_ble_eq_true rfl) (Nat.le_of_ble_eq_true rfl) dX7_steps_145 (tX7_keep (ok_b hF)) (fun r0 s18 hF => ?_)
          obtain ⟨r17, rfl, hF⟩ := hF
          refine p_callV (c0 := 300) (av := [.int _]) qV_RX7_71 rfl rfl rfl rfl (Nat.le_of_ble_eq_true rfl) (Nat.le_of_ble_eq_true rfl) dX7_steps_148 (tX7_refused (ok_b hF)) (fun r0 s20 hF => ?_)
          obtain ⟨r19, rfl, hF⟩ := hF
          exact p_iret rfl dX7_steps_151 (ok_r (j := jI) hF)
        · have hF := ok_t hc hF
          refine p_aload_n rfl dX7_steps_68 ?_
          refine p_bipush (v := -4) (by decide) dX7_steps_69 ?_
          refine p_callV (c0 := 300) (av := [.int _]) qV_RX7_71 rfl rfl rfl rfl (Nat.le_of_ble_eq_true rfl) (Nat.le_of_ble_eq_true rfl) dX7_steps_71 (tX7_refused (ok_b hF)) (fun r0 s22 hF => ?_)
          obtain ⟨r21, rfl, hF⟩ := hF
          exact p_iret rfl dX7_steps_74 (ok_r (j := jI) hF)
      · have hF := ok_t hc hF
        refine p_aload_n rfl dX7_steps_52 ?_
        refine p_bipush (v := -2) (by decide) dX7_steps_53 ?_
        refine p_callV (c0 := 300) (av := [.int _]) qV_RX7_71 rfl rfl rfl rfl (Nat.le_of_ble_eq_true rfl) (Nat.le_of_ble_eq_true rfl) dX7_steps_55 (tX7_refused (ok_b hF)) (fun r0 s24 hF => ?_)
        obtain ⟨r23, rfl, hF⟩ := hF
        exact p_iret rfl dX7_steps_58 (ok_r (j := jI) hF)
    · have hF := ok_f hc hF
      refine p_iload rfl dX7_steps_30 ?_
      exact p_iret rfl dX7_steps_32 (ok_r (j := jI) hF)
  · have hF := ok_f hc hF
    refine p_aload_n rfl dX7_steps_7 ?_
    refine p_iconst (v := -1) (by decide) dX7_steps_8 ?_
    refine p_callV (c0 := 300) (av := [.int _]) qV_RX7_71 rfl rfl rfl rfl (Nat.le_of_ble_eq_true rfl) (Nat.le_of_ble_eq_true rfl) dX7_steps_9 (tX7_refused (ok_b hF)) (fun r0 s26 hF => ?_)
    obtain ⟨r25, rfl, hF⟩ := hF
    exact p_iret rfl dX7_steps_12 (ok_r (j := jI) hF)
theorem b_X7_bucket_24 {d : Nat} (hd : 1 ≤ d) {Q : Option Value → Hp → Prop}   (sg : Hp) (hF : ok jI (B_X7_bucket_24   sg) Q) : pw tM (d + 1) mX7_bucket 24 [] [] sg Q := by
  unfold B_X7_bucket_24 at hF
  refine p_bipush (v := -2) (by decide) dX7_bucket_24 ?_
  exact p_iret rfl dX7_bucket_26 (ok_r (j := jI) hF)
theorem tX7_bucket {d : Nat} (hd : 2 ≤ d) {Q : Option Value → Hp → Prop} {a1 : Int32} {a2 : Int32} {sg : Hp} (hF : ok jI (fX7_bucket a1 a2 sg) Q) : pw tM d mX7_bucket 0 (lv_args 0 [.ref 300, .int a1, .int a2]) [] sg Q := by
  unfold fX7_bucket at hF
  obtain ⟨d, rfl⟩ : ∃ e, d = e + 1 := ⟨d - 1, by omega⟩
  have hd : 1 ≤ d := by omega
  show pw _ _ _ _ [(0, .ref 300), (1, .int a1), (2, .int a2)] [] _ _
  refine p_iload_n rfl dX7_bucket_0 ?_
  refine p_i2l dX7_bucket_1 ?_
  refine p_lconst (v := 0) (by decide) dX7_bucket_2 ?_
  refine p_ldc2 wd_899 dX7_bucket_3 ?_
  refine p_callS (av := [.long _, .long _, .long _]) qS_RX7_67 rfl (Nat.le_of_ble_eq_true rfl) (Nat.le_of_ble_eq_true rfl) dX7_bucket_6 (tX7_in (ok_b hF)) (fun r0 s2 hF => ?_)
  obtain ⟨r1, rfl, hF⟩ := hF
  refine p_if_eq (tgt := 24) dX7_bucket_9 (by decide) (fun hc => ?_) (fun hc => ?_)
  · have hF := ok_t hc hF
    exact p_lv [] rfl (b_X7_bucket_24 hd  _ hF)
  · have hF := ok_f hc hF
    refine p_iload_n rfl dX7_bucket_12 ?_
    refine p_i2l dX7_bucket_13 ?_
    refine p_lconst (v := 0) (by decide) dX7_bucket_14 ?_
    refine p_ldc2 wd_877 dX7_bucket_15 ?_
    refine p_callS (av := [.long _, .long _, .long _]) qS_RX7_67 rfl (Nat.le_of_ble_eq_true rfl) (Nat.le_of_ble_eq_true rfl) dX7_bucket_18 (tX7_in (ok_b hF)) (fun r0 s4 hF => ?_)
    obtain ⟨r3, rfl, hF⟩ := hF
    refine p_if_ne (tgt := 27) dX7_bucket_21 (by decide) (fun hc => ?_) (fun hc => ?_)
    · have hF := ok_f hc hF
      refine p_aload_n rfl dX7_bucket_27 ?_
      refine p_getI qF_RX7_82 rfl rfl dX7_bucket_28 ?_
      refine p_bipush (v := 24) (by decide) dX7_bucket_31 ?_
      refine p_icmp_ne (tgt := 39) dX7_bucket_33 (by decide) (fun hc => ?_) (fun hc => ?_)
      · have hF := ok_f hc hF
        refine p_aload_n rfl dX7_bucket_39 ?_
        refine p_aload_n rfl dX7_bucket_40 ?_
        refine p_getI qF_RX7_82 rfl rfl dX7_bucket_41 ?_
        refine p_iload_n rfl dX7_bucket_44 ?_
        refine p_iload_n rfl dX7_bucket_45 ?_
        refine p_callV (c0 := 300) (av := [.int _, .int _, .int _]) qV_RX7_120 rfl rfl rfl rfl (Nat.le_of_ble_eq_true rfl) (Nat.le_of_ble_eq_true rfl) dX7_bucket_46 (tX7_layBucket (by omega) (ok_b hF)) (fun r0 s6 hF => ?_)
        obtain ⟨r5, rfl, hF⟩ := hF
        refine p_aload_n rfl dX7_bucket_49 ?_
        refine p_iconst (v := 1) (by decide) dX7_bucket_50 ?_
        refine p_callV (c0 := 300) (av := [.int _]) qV_RX7_115 rfl rfl rfl rfl (Nat.le_of_ble_eq_true rfl) (Nat.le_of_ble_eq_true rfl) dX7_bucket_51 (tX7_keep (ok_b hF)) (fun r0 s8 hF => ?_)
        obtain ⟨r7, rfl, hF⟩ := hF
        exact p_iret rfl dX7_bucket_54 (ok_r (j := jI) hF)
      · have hF := ok_t hc hF
        refine p_bipush (v := -4) (by decide) dX7_bucket_36 ?_
        exact p_iret rfl dX7_bucket_38 (ok_r (j := jI) hF)
    · have hF := ok_t hc hF
      exact p_lv [] rfl (b_X7_bucket_24 hd  _ hF)
theorem b_X7_late_24 {d : Nat} (hd : 1 ≤ d) {Q : Option Value → Hp → Prop}   (sg : Hp) (hF : ok jI (B_X7_late_24   sg) Q) : pw tM (d + 1) mX7_late 24 [] [] sg Q := by
  unfold B_X7_late_24 at hF
  refine p_bipush (v := -2) (by decide) dX7_late_24 ?_
  exact p_iret rfl dX7_late_26 (ok_r (j := jI) hF)
theorem tX7_late {d : Nat} (hd : 2 ≤ d) {Q : Option Value → Hp → Prop} {a1 : Int32} {a2 : Int32} {sg : Hp} (hF : ok jI (fX7_late a1 a2 sg) Q) : pw tM d mX7_late 0 (lv_args 0 [.ref 300, .int a1, .int a2]) [] sg Q := by
  unfold fX7_late at hF
  obtain ⟨d, rfl⟩ : ∃ e, d = e + 1 := ⟨d - 1, by omega⟩
  have hd : 1 ≤ d := by omega
  show pw _ _ _ _ [(0, .ref 300), (1, .int a1), (2, .int a2)] [] _ _
  refine p_iload_n rfl dX7_late_0 ?_
  refine p_i2l dX7_late_1 ?_
  refine p_lconst (v := 0) (by decide) dX7_late_2 ?_
  refine p_ldc2 wd_876 dX7_late_3 ?_
  refine p_callS (av := [.long _, .long _, .long _]) qS_RX7_67 rfl (Nat.le_of_ble_eq_true rfl) (Nat.le_of_ble_eq_true rfl) dX7_late_6 (tX7_in (ok_b hF)) (fun r0 s2 hF => ?_)
  obtain ⟨r1, rfl, hF⟩ := hF
  refine p_if_eq (tgt := 24) dX7_late_9 (by decide) (fun hc => ?_) (fun hc => ?_)
  · have hF := ok_t hc hF
    exact p_lv [] rfl (b_X7_late_24 hd  _ hF)
  · have hF := ok_f hc hF
    refine p_iload_n rfl dX7_late_12 ?_
    refine p_i2l dX7_late_13 ?_
    refine p_lconst (v := 0) (by decide) dX7_late_14 ?_
    refine p_ldc2 wd_877 dX7_late_15 ?_
    refine p_callS (av := [.long _, .long _, .long _]) qS_RX7_67 rfl (Nat.le_of_ble_eq_true rfl) (Nat.le_of_ble_eq_true rfl) dX7_late_18 (tX7_in (ok_b hF)) (fun r0 s4 hF => ?_)
    obtain ⟨r3, rfl, hF⟩ := hF
    refine p_if_ne (tgt := 27) dX7_late_21 (by decide) (fun hc => ?_) (fun hc => ?_)
    · have hF := ok_f hc hF
      refine p_aload_n rfl dX7_late_27 ?_
      refine p_getI qF_RX7_82 rfl rfl dX7_late_28 ?_
      refine p_bipush (v := 24) (by decide) dX7_late_31 ?_
      refine p_icmp_ne (tgt := 39) dX7_late_33 (by decide) (fun hc => ?_) (fun hc => ?_)
      · have hF := ok_f hc hF
        refine p_aload_n rfl dX7_late_39 ?_
        refine p_aload_n rfl dX7_late_40 ?_
        refine p_getI qF_RX7_82 rfl rfl dX7_late_41 ?_
        refine p_iload_n rfl dX7_late_44 ?_
        refine p_iload_n rfl dX7_late_45 ?_
        refine p_callV (c0 := 300) (av := [.int _, .int _, .int _]) qV_RX7_124 rfl rfl rfl rfl (Nat.le_of_ble_eq_true rfl) (Nat.le_of_ble_eq_true rfl) dX7_late_46 (tX7_layLate (by omega) (ok_b hF)) (fun r0 s6 hF => ?_)
        obtain ⟨r5, rfl, hF⟩ := hF
        refine p_aload_n rfl dX7_late_49 ?_
        refine p_iconst (v := 2) (by decide) dX7_late_50 ?_
        refine p_callV (c0 := 300) (av := [.int _]) qV_RX7_115 rfl rfl rfl rfl (Nat.le_of_ble_eq_true rfl) (Nat.le_of_ble_eq_true rfl) dX7_late_51 (tX7_keep (ok_b hF)) (fun r0 s8 hF => ?_)
        obtain ⟨r7, rfl, hF⟩ := hF
        exact p_iret rfl dX7_late_54 (ok_r (j := jI) hF)
      · have hF := ok_t hc hF
        refine p_bipush (v := -4) (by decide) dX7_late_36 ?_
        exact p_iret rfl dX7_late_38 (ok_r (j := jI) hF)
    · have hF := ok_t hc hF
      exact p_lv [] rfl (b_X7_late_24 hd  _ hF)
theorem l_X7_readsNumber_9 {d : Nat} {Q : Option Value → Hp → Prop} {k87 : Int32 → Int32 → Int32 → Hp → Option (Int32 × Hp)} (hk87 : ∀ (z3 : Int32) (z4 : Int32) (z5 : Int32) (s2 : Hp), ok jI (k87 z3 z4 z5 s2) Q → pw tM (d + 1) mX7_readsNumber 87 [(0, .ref 300), (3, .int z3), (4, .int z4), (5, .int z5)] [] s2 Q) : ∀ (n : Nat) (v1 : Int32) (v2 : Int32) (v3 : Int32) (v4 : Int32) (v5 : Int32) (sg : Hp), ok jI (L_X7_readsNumber_9 k87 n v1 v2 v3 v4 v5 sg) Q → pw tM (d + 1) mX7_readsNumber 9 [(0, .ref 300), (1, .int v1), (2, .int v2), (3, .int v3), (4, .int v4), (5, .int v5)] [] sg Q := by
  intro n
  induction n with
  | zero =>
    intro v1 v2 v3 v4 v5 sg hF
    obtain ⟨_, _, h9, _⟩ := hF
    cases h9
  | succ n ih =>
    intro v1 v2 v3 v4 v5 sg hF
    refine p_aload_n rfl dX7_readsNumber_9 ?_
    refine p_getI qF_RX7_127 rfl rfl dX7_readsNumber_10 ?_
    refine p_iload_n rfl dX7_readsNumber_13 ?_
    refine p_icmp_ge (tgt := 87) dX7_readsNumber_14 (by decide) (fun hc => ?_) (fun hc => ?_)
    · have hF := ok_t hc hF
      exact p_lv [0, 3, 4, 5] rfl (hk87 _ _ _ _ hF)
    · have hF := ok_f hc hF
      refine p_aload_n rfl dX7_readsNumber_17 ?_
      refine p_getI qF_RX7_127 rfl rfl dX7_readsNumber_18 ?_
      refine p_iload rfl dX7_readsNumber_21 ?_
      refine p_iconst (v := 4) (by decide) dX7_readsNumber_23 ?_
      refine p_iadd dX7_readsNumber_24 ?_
      refine p_icmp_ge (tgt := 87) dX7_readsNumber_25 (by decide) (fun hc => ?_) (fun hc => ?_)
      · have hF := ok_t hc hF
        exact p_lv [0, 3, 4, 5] rfl (hk87 _ _ _ _ hF)
      · have hF := ok_f hc hF
        refine p_aload_n rfl dX7_readsNumber_28 ?_
        refine p_getR (c1 := 322) qF_RX7_49 rfl rfl dX7_readsNumber_29 ?_
        refine p_iload_n rfl dX7_readsNumber_32 ?_
        refine p_aload_n rfl dX7_readsNumber_33 ?_
        refine p_getI qF_RX7_127 rfl rfl dX7_readsNumber_34 ?_
        refine p_iadd dX7_readsNumber_37 ?_
        obtain ⟨hg, hF⟩ := ok_g hF
        refine p_iald rfl (inb_in hg) dX7_readsNumber_38 ?_
        refine p_i2l dX7_readsNumber_39 ?_
        refine p_ldc2 wd_928 dX7_readsNumber_40 ?_
        refine p_ldc2 wd_929 dX7_readsNumber_43 ?_
        refine p_callS (av := [.long _, .long _, .long _]) qS_RX7_67 rfl (Nat.le_of_ble_eq_true rfl) (Nat.le_of_ble_eq_true rfl) dX7_readsNumber_46 (tX7_in (ok_b hF)) (fun r0 s2 hF => ?_)
        obtain ⟨r1, rfl, hF⟩ := hF
        refine p_if_eq (tgt := 87) dX7_readsNumber_49 (by decide) (fun hc => ?_) (fun hc => ?_)
        · have hF := ok_t hc hF
          exact p_lv [0, 3, 4, 5] rfl (hk87 _ _ _ _ hF)
        · have hF := ok_f hc hF
          refine p_bipush (v := 10) (by decide) dX7_readsNumber_52 ?_
          refine p_iload rfl dX7_readsNumber_54 ?_
          refine p_imul dX7_readsNumber_56 ?_
          refine p_aload_n rfl dX7_readsNumber_57 ?_
          refine p_getR (c1 := 322) qF_RX7_49 rfl rfl dX7_readsNumber_58 ?_
          refine p_iload_n rfl dX7_readsNumber_61 ?_
          refine p_aload_n rfl dX7_readsNumber_62 ?_
          refine p_getI qF_RX7_127 rfl rfl dX7_readsNumber_63 ?_
          refine p_iadd dX7_readsNumber_66 ?_
          obtain ⟨hg, hF⟩ := ok_g hF
          refine p_iald rfl (inb_in hg) dX7_readsNumber_67 ?_
          refine p_iadd dX7_readsNumber_68 ?_
          refine p_bipush (v := 48) (by decide) dX7_readsNumber_69 ?_
          refine p_isub dX7_readsNumber_71 ?_
          refine p_istore (Nat.le_of_ble_eq_true rfl) rfl dX7_readsNumber_72 ?_
          refine p_aload_n rfl dX7_readsNumber_74 ?_
          refine p_dup rfl dX7_readsNumber_75 ?_
          refine p_getI qF_RX7_127 rfl rfl dX7_readsNumber_76 ?_
          refine p_iconst (v := 1) (by decide) dX7_readsNumber_79 ?_
          refine p_iadd dX7_readsNumber_80 ?_
          refine p_put qF_RX7_127 qP_6_4 rfl rfl rfl rfl dX7_readsNumber_81 ?_
          refine p_goto (tgt := 9) dX7_readsNumber_84 (by decide) ?_
          exact p_lv [0, 1, 2, 3, 4, 5] rfl (ih _ _ _ _ _ _ hF)
theorem b_X7_readsNumber_119 {d : Nat} {Q : Option Value → Hp → Prop}  (vk0 : Int32) (sg : Hp) (hF : ok jI (B_X7_readsNumber_119  vk0 sg) Q) : pw tM (d + 1) mX7_readsNumber 119 [] [.int vk0] sg Q := by
  unfold B_X7_readsNumber_119 at hF
  obtain ⟨hg, hF⟩ := ok_g hF
  exact p_zret rfl (b01_n hg).1 dX7_readsNumber_119 (ok_r (j := jI) hF)
theorem b_X7_readsNumber_105 {d : Nat} {Q : Option Value → Hp → Prop}  (v4 : Int32) (sg : Hp) (hF : ok jI (B_X7_readsNumber_105  v4 sg) Q) : pw tM (d + 1) mX7_readsNumber 105 [(0, .ref 300), (4, .int v4)] [] sg Q := by
  unfold B_X7_readsNumber_105 at hF
  refine p_aload_n rfl dX7_readsNumber_105 ?_
  refine p_getI qF_RX7_127 rfl rfl dX7_readsNumber_106 ?_
  refine p_iload rfl dX7_readsNumber_109 ?_
  refine p_icmp_le (tgt := 118) dX7_readsNumber_111 (by decide) (fun hc => ?_) (fun hc => ?_)
  · have hF := ok_t hc hF
    refine p_iconst (v := 0) (by decide) dX7_readsNumber_118 ?_
    exact p_lv [] rfl (b_X7_readsNumber_119  _ _ hF)
  · have hF := ok_f hc hF
    refine p_iconst (v := 1) (by decide) dX7_readsNumber_114 ?_
    refine p_goto (tgt := 119) dX7_readsNumber_115 (by decide) ?_
    exact p_lv [] rfl (b_X7_readsNumber_119  _ _ hF)
theorem tX7_readsNumber {d : Nat} (hd : 1 ≤ d) {Q : Option Value → Hp → Prop} {a1 : Int32} {a2 : Int32} {a3 : Int32} {sg : Hp} (hF : ok jI (fX7_readsNumber a1 a2 a3 sg) Q) : pw tM d mX7_readsNumber 0 (lv_args 0 [.ref 300, .int a1, .int a2, .int a3]) [] sg Q := by
  unfold fX7_readsNumber at hF
  obtain ⟨d, rfl⟩ : ∃ e, d = e + 1 := ⟨d - 1, by omega⟩
  show pw _ _ _ _ [(0, .ref 300), (1, .int a1), (2, .int a2), (3, .int a3)] [] _ _
  refine p_aload_n rfl dX7_readsNumber_0 ?_
  refine p_getI qF_RX7_127 rfl rfl dX7_readsNumber_1 ?_
  refine p_istore (Nat.le_of_ble_eq_true rfl) rfl dX7_readsNumber_4 ?_
  refine p_iconst (v := 0) (by decide) dX7_readsNumber_6 ?_
  refine p_istore (Nat.le_of_ble_eq_true rfl) rfl dX7_readsNumber_7 ?_
  refine p_lv [0, 1, 2, 3, 4, 5] rfl (l_X7_readsNumber_9 ?_ 200 _ _ _ _ _ _ hF)
  intro w3_3 w3_4 w3_5 s4 hF
  refine p_aload_n rfl dX7_readsNumber_87 ?_
  refine p_iload rfl dX7_readsNumber_88 ?_
  refine p_put qF_RX7_134 qP_6_10 rfl rfl rfl rfl dX7_readsNumber_90 ?_
  refine p_iload rfl dX7_readsNumber_93 ?_
  refine p_iload_n rfl dX7_readsNumber_95 ?_
  refine p_icmp_le (tgt := 105) dX7_readsNumber_96 (by decide) (fun hc => ?_) (fun hc => ?_)
  · have hF := ok_t hc hF
    exact p_lv [0, 4] rfl (b_X7_readsNumber_105  _ _ hF)
  · have hF := ok_f hc hF
    refine p_aload_n rfl dX7_readsNumber_99 ?_
    refine p_iload rfl dX7_readsNumber_100 ?_
    refine p_put qF_RX7_127 qP_6_4 rfl rfl rfl rfl dX7_readsNumber_102 ?_
    exact p_lv [0, 4] rfl (b_X7_readsNumber_105  _ _ hF)
theorem b_X7_readsItem_204 {d : Nat} (hd : 1 ≤ d) {Q : Option Value → Hp → Prop}  (v5 : Int32) (vk0 : Int32) (vk1 : Int32) (sg : Hp) (hF : ok jI (B_X7_readsItem_204  v5 vk0 vk1 sg) Q) : pw tM (d + 1) mX7_readsItem 204 [(5, .int v5)] [.int vk0, .int vk1, .ref 300] sg Q := by
  unfold B_X7_readsItem_204 at hF
  refine p_iadd dX7_readsItem_204 ?_
  refine p_put qF_RX7_141 qP_6_5 rfl rfl rfl rfl dX7_readsItem_205 ?_
  refine p_iload rfl dX7_readsItem_208 ?_
  obtain ⟨hg, hF⟩ := ok_g hF
  exact p_zret rfl (b01_n hg).1 dX7_readsItem_210 (ok_r (j := jI) hF)
theorem b_X7_readsItem_154 {d : Nat} (hd : 1 ≤ d) {Q : Option Value → Hp → Prop}  (v1 : Int32) (v2 : Int32) (v4 : Int32) (sg : Hp) (hF : ok jI (B_X7_readsItem_154  v1 v2 v4 sg) Q) : pw tM (d + 1) mX7_readsItem 154 [(0, .ref 300), (1, .int v1), (2, .int v2), (4, .int v4)] [] sg Q := by
  unfold B_X7_readsItem_154 at hF
  refine p_aload_n rfl dX7_readsItem_154 ?_
  refine p_getR (c1 := 307) qF_RX7_16 rfl rfl dX7_readsItem_155 ?_
  refine p_aload_n rfl dX7_readsItem_158 ?_
  refine p_getI qF_RX7_141 rfl rfl dX7_readsItem_159 ?_
  refine p_iload rfl dX7_readsItem_162 ?_
  obtain ⟨hg, hF⟩ := ok_g hF
  refine p_iast rfl (inb_in hg) dX7_readsItem_164 ?_
  refine p_aload_n rfl dX7_readsItem_165 ?_
  refine p_iload_n rfl dX7_readsItem_166 ?_
  refine p_iload_n rfl dX7_readsItem_167 ?_
  refine p_sipush (v := 999) (by decide) dX7_readsItem_168 ?_
  refine p_callV (c0 := 300) (av := [.int _, .int _, .int _]) qV_RX7_137 rfl rfl rfl rfl (Nat.le_of_ble_eq_true rfl) (Nat.le_of_ble_eq_true rfl) dX7_readsItem_171 (tX7_readsNumber (by omega) (ok_b hF)) (fun r0 s2 hF => ?_)
  obtain ⟨r1, rfl, hF⟩ := hF
  refine p_istore (Nat.le_of_ble_eq_true rfl) rfl dX7_readsItem_174 ?_
  refine p_aload_n rfl dX7_readsItem_176 ?_
  refine p_getR (c1 := 309) qF_RX7_22 rfl rfl dX7_readsItem_177 ?_
  refine p_aload_n rfl dX7_readsItem_180 ?_
  refine p_getI qF_RX7_141 rfl rfl dX7_readsItem_181 ?_
  refine p_aload_n rfl dX7_readsItem_184 ?_
  refine p_getI qF_RX7_134 rfl rfl dX7_readsItem_185 ?_
  obtain ⟨hg, hF⟩ := ok_g hF
  refine p_iast rfl (inb_in hg) dX7_readsItem_188 ?_
  refine p_aload_n rfl dX7_readsItem_189 ?_
  refine p_dup rfl dX7_readsItem_190 ?_
  refine p_getI qF_RX7_141 rfl rfl dX7_readsItem_191 ?_
  refine p_iload rfl dX7_readsItem_194 ?_
  refine p_if_eq (tgt := 203) dX7_readsItem_196 (by decide) (fun hc => ?_) (fun hc => ?_)
  · have hF := ok_t hc hF
    refine p_iconst (v := 0) (by decide) dX7_readsItem_203 ?_
    exact p_lv [5] rfl (b_X7_readsItem_204 hd  _ _ _ _ hF)
  · have hF := ok_f hc hF
    refine p_iconst (v := 1) (by decide) dX7_readsItem_199 ?_
    refine p_goto (tgt := 204) dX7_readsItem_200 (by decide) ?_
    exact p_lv [5] rfl (b_X7_readsItem_204 hd  _ _ _ _ hF)
theorem b_X7_readsItem_142 {d : Nat} (hd : 1 ≤ d) {Q : Option Value → Hp → Prop}   (sg : Hp) (hF : ok jI (B_X7_readsItem_142   sg) Q) : pw tM (d + 1) mX7_readsItem 142 [] [] sg Q := by
  unfold B_X7_readsItem_142 at hF
  refine p_iconst (v := 0) (by decide) dX7_readsItem_142 ?_
  exact p_zret rfl rfl dX7_readsItem_143 (ok_r (j := jI) hF)
theorem b_X7_readsItem_97 {d : Nat} (hd : 1 ≤ d) {Q : Option Value → Hp → Prop}  (v1 : Int32) (v2 : Int32) (v4 : Int32) (vk0 : Int32) (vk1 : Int32) (vk2 : Int32) (sg : Hp) (hF : ok jI (B_X7_readsItem_97  v1 v2 v4 vk0 vk1 vk2 sg) Q) : pw tM (d + 1) mX7_readsItem 97 [(0, .ref 300), (1, .int v1), (2, .int v2), (4, .int v4)] [.int vk0, .int vk1, .int vk2, .ref 300] sg Q := by
  unfold B_X7_readsItem_97 at hF
  refine p_callV (c0 := 300) (av := [.int _, .int _, .int _]) qV_RX7_137 rfl rfl rfl rfl (Nat.le_of_ble_eq_true rfl) (Nat.le_of_ble_eq_true rfl) dX7_readsItem_97 (tX7_readsNumber (by omega) (ok_b hF)) (fun r0 s4 hF => ?_)
  obtain ⟨r3, rfl, hF⟩ := hF
  refine p_if_ne (tgt := 105) dX7_readsItem_100 (by decide) (fun hc => ?_) (fun hc => ?_)
  · have hF := ok_f hc hF
    refine p_aload_n rfl dX7_readsItem_105 ?_
    refine p_getR (c1 := 308) qF_RX7_19 rfl rfl dX7_readsItem_106 ?_
    refine p_aload_n rfl dX7_readsItem_109 ?_
    refine p_getI qF_RX7_141 rfl rfl dX7_readsItem_110 ?_
    refine p_aload_n rfl dX7_readsItem_113 ?_
    refine p_getI qF_RX7_134 rfl rfl dX7_readsItem_114 ?_
    obtain ⟨hg, hF⟩ := ok_g hF
    refine p_iast rfl (inb_in hg) dX7_readsItem_117 ?_
    refine p_aload_n rfl dX7_readsItem_118 ?_
    refine p_getI qF_RX7_127 rfl rfl dX7_readsItem_119 ?_
    refine p_iload_n rfl dX7_readsItem_122 ?_
    refine p_icmp_eq (tgt := 142) dX7_readsItem_123 (by decide) (fun hc => ?_) (fun hc => ?_)
    · have hF := ok_t hc hF
      exact p_lv [] rfl (b_X7_readsItem_142 hd  _ hF)
    · have hF := ok_f hc hF
      refine p_aload_n rfl dX7_readsItem_126 ?_
      refine p_getR (c1 := 322) qF_RX7_49 rfl rfl dX7_readsItem_127 ?_
      refine p_iload_n rfl dX7_readsItem_130 ?_
      refine p_aload_n rfl dX7_readsItem_131 ?_
      refine p_getI qF_RX7_127 rfl rfl dX7_readsItem_132 ?_
      refine p_iadd dX7_readsItem_135 ?_
      obtain ⟨hg, hF⟩ := ok_g hF
      refine p_iald rfl (inb_in hg) dX7_readsItem_136 ?_
      refine p_bipush (v := 114) (by decide) dX7_readsItem_137 ?_
      refine p_icmp_eq (tgt := 144) dX7_readsItem_139 (by decide) (fun hc => ?_) (fun hc => ?_)
      · have hF := ok_t hc hF
        refine p_aload_n rfl dX7_readsItem_144 ?_
        refine p_dup rfl dX7_readsItem_145 ?_
        refine p_getI qF_RX7_127 rfl rfl dX7_readsItem_146 ?_
        refine p_iconst (v := 1) (by decide) dX7_readsItem_149 ?_
        refine p_iadd dX7_readsItem_150 ?_
        refine p_put qF_RX7_127 qP_6_4 rfl rfl rfl rfl dX7_readsItem_151 ?_
        exact p_lv [0, 1, 2, 4] rfl (b_X7_readsItem_154 hd  _ _ _ _ hF)
      · have hF := ok_f hc hF
        exact p_lv [] rfl (b_X7_readsItem_142 hd  _ hF)
  · have hF := ok_t hc hF
    refine p_iconst (v := 0) (by decide) dX7_readsItem_103 ?_
    exact p_zret rfl rfl dX7_readsItem_104 (ok_r (j := jI) hF)
theorem b_X7_readsItem_56 {d : Nat} (hd : 1 ≤ d) {Q : Option Value → Hp → Prop}  (v1 : Int32) (v2 : Int32) (vk0 : Int32) (sg : Hp) (hF : ok jI (B_X7_readsItem_56  v1 v2 vk0 sg) Q) : pw tM (d + 1) mX7_readsItem 56 [(0, .ref 300), (1, .int v1), (2, .int v2)] [.int vk0] sg Q := by
  unfold B_X7_readsItem_56 at hF
  refine p_istore (Nat.le_of_ble_eq_true rfl) rfl dX7_readsItem_56 ?_
  refine p_iload rfl dX7_readsItem_58 ?_
  refine p_if_ge (tgt := 65) dX7_readsItem_60 (by decide) (fun hc => ?_) (fun hc => ?_)
  · have hF := ok_t hc hF
    refine p_aload_n rfl dX7_readsItem_65 ?_
    refine p_dup rfl dX7_readsItem_66 ?_
    refine p_getI qF_RX7_127 rfl rfl dX7_readsItem_67 ?_
    refine p_iconst (v := 1) (by decide) dX7_readsItem_70 ?_
    refine p_iadd dX7_readsItem_71 ?_
    refine p_put qF_RX7_127 qP_6_4 rfl rfl rfl rfl dX7_readsItem_72 ?_
    refine p_iload rfl dX7_readsItem_75 ?_
    refine p_if_le (tgt := 154) dX7_readsItem_77 (by decide) (fun hc => ?_) (fun hc => ?_)
    · have hF := ok_t hc hF
      exact p_lv [0, 1, 2, 4] rfl (b_X7_readsItem_154 hd  _ _ _ _ hF)
    · have hF := ok_f hc hF
      refine p_aload_n rfl dX7_readsItem_80 ?_
      refine p_iload_n rfl dX7_readsItem_81 ?_
      refine p_iload_n rfl dX7_readsItem_82 ?_
      refine p_iload rfl dX7_readsItem_83 ?_
      refine p_iconst (v := 1) (by decide) dX7_readsItem_85 ?_
      refine p_icmp_ne (tgt := 95) dX7_readsItem_86 (by decide) (fun hc => ?_) (fun hc => ?_)
      · have hF := ok_f hc hF
        refine p_bipush (v := 40) (by decide) dX7_readsItem_95 ?_
        exact p_lv [0, 1, 2, 4] rfl (b_X7_readsItem_97 hd  _ _ _ _ _ _ _ hF)
      · have hF := ok_t hc hF
        refine p_sipush (v := 9999) (by decide) dX7_readsItem_89 ?_
        refine p_goto (tgt := 97) dX7_readsItem_92 (by decide) ?_
        exact p_lv [0, 1, 2, 4] rfl (b_X7_readsItem_97 hd  _ _ _ _ _ _ _ hF)
  · have hF := ok_f hc hF
    refine p_iconst (v := 0) (by decide) dX7_readsItem_63 ?_
    exact p_zret rfl rfl dX7_readsItem_64 (ok_r (j := jI) hF)
theorem b_X7_readsItem_23 {d : Nat} (hd : 1 ≤ d) {Q : Option Value → Hp → Prop}  (v1 : Int32) (v2 : Int32) (vk0 : Int32) (sg : Hp) (hF : ok jI (B_X7_readsItem_23  v1 v2 vk0 sg) Q) : pw tM (d + 1) mX7_readsItem 23 [(0, .ref 300), (1, .int v1), (2, .int v2)] [.int vk0] sg Q := by
  unfold B_X7_readsItem_23 at hF
  refine p_istore_n (Nat.le_of_ble_eq_true rfl) rfl dX7_readsItem_23 ?_
  refine p_iload_n rfl dX7_readsItem_24 ?_
  refine p_bipush (v := 114) (by decide) dX7_readsItem_25 ?_
  refine p_icmp_ne (tgt := 34) dX7_readsItem_27 (by decide) (fun hc => ?_) (fun hc => ?_)
  · have hF := ok_f hc hF
    refine p_iload_n rfl dX7_readsItem_34 ?_
    refine p_bipush (v := 98) (by decide) dX7_readsItem_35 ?_
    refine p_icmp_ne (tgt := 44) dX7_readsItem_37 (by decide) (fun hc => ?_) (fun hc => ?_)
    · have hF := ok_f hc hF
      refine p_iload_n rfl dX7_readsItem_44 ?_
      refine p_bipush (v := 108) (by decide) dX7_readsItem_45 ?_
      refine p_icmp_ne (tgt := 54) dX7_readsItem_47 (by decide) (fun hc => ?_) (fun hc => ?_)
      · have hF := ok_f hc hF
        refine p_bipush (v := -9) (by decide) dX7_readsItem_54 ?_
        exact p_lv [0, 1, 2] rfl (b_X7_readsItem_56 hd  _ _ _ _ hF)
      · have hF := ok_t hc hF
        refine p_iconst (v := 2) (by decide) dX7_readsItem_50 ?_
        refine p_goto (tgt := 56) dX7_readsItem_51 (by decide) ?_
        exact p_lv [0, 1, 2] rfl (b_X7_readsItem_56 hd  _ _ _ _ hF)
    · have hF := ok_t hc hF
      refine p_iconst (v := 1) (by decide) dX7_readsItem_40 ?_
      refine p_goto (tgt := 56) dX7_readsItem_41 (by decide) ?_
      exact p_lv [0, 1, 2] rfl (b_X7_readsItem_56 hd  _ _ _ _ hF)
  · have hF := ok_t hc hF
    refine p_iconst (v := 0) (by decide) dX7_readsItem_30 ?_
    refine p_goto (tgt := 56) dX7_readsItem_31 (by decide) ?_
    exact p_lv [0, 1, 2] rfl (b_X7_readsItem_56 hd  _ _ _ _ hF)
theorem tX7_readsItem {d : Nat} (hd : 2 ≤ d) {Q : Option Value → Hp → Prop} {a1 : Int32} {a2 : Int32} {sg : Hp} (hF : ok jI (fX7_readsItem a1 a2 sg) Q) : pw tM d mX7_readsItem 0 (lv_args 0 [.ref 300, .int a1, .int a2]) [] sg Q := by
  unfold fX7_readsItem at hF
  obtain ⟨d, rfl⟩ : ∃ e, d = e + 1 := ⟨d - 1, by omega⟩
  have hd : 1 ≤ d := by omega
  show pw _ _ _ _ [(0, .ref 300), (1, .int a1), (2, .int a2)] [] _ _
  refine p_aload_n rfl dX7_readsItem_0 ?_
  refine p_getI qF_RX7_127 rfl rfl dX7_readsItem_1 ?_
  refine p_iload_n rfl dX7_readsItem_4 ?_
  refine p_icmp_ge (tgt := 22) dX7_readsItem_5 (by decide) (fun hc => ?_) (fun hc => ?_)
  · have hF := ok_t hc hF
    refine p_iconst (v := 0) (by decide) dX7_readsItem_22 ?_
    exact p_lv [0, 1, 2] rfl (b_X7_readsItem_23 hd  _ _ _ _ hF)
  · have hF := ok_f hc hF
    refine p_aload_n rfl dX7_readsItem_8 ?_
    refine p_getR (c1 := 322) qF_RX7_49 rfl rfl dX7_readsItem_9 ?_
    refine p_iload_n rfl dX7_readsItem_12 ?_
    refine p_aload_n rfl dX7_readsItem_13 ?_
    refine p_getI qF_RX7_127 rfl rfl dX7_readsItem_14 ?_
    refine p_iadd dX7_readsItem_17 ?_
    obtain ⟨hg, hF⟩ := ok_g hF
    refine p_iald rfl (inb_in hg) dX7_readsItem_18 ?_
    refine p_goto (tgt := 23) dX7_readsItem_19 (by decide) ?_
    exact p_lv [0, 1, 2] rfl (b_X7_readsItem_23 hd  _ _ _ _ hF)
theorem b_X7_readStair_110 {d : Nat} (hd : 2 ≤ d) {Q : Option Value → Hp → Prop} {k17 : Int32 → Int32 → Int32 → Hp → Option (Int32 × Hp)} (hk17 : ∀ (z1 : Int32) (z2 : Int32) (z3 : Int32) (s2 : Hp), ok jI (k17 z1 z2 z3 s2) Q → pw tM (d + 1) mX7_readStair 17 [(0, .ref 300), (1, .int z1), (2, .int z2), (3, .int z3)] [] s2 Q) {k117 : Hp → Option (Int32 × Hp)} (hk117 : ∀ (s2 : Hp), ok jI (k117 s2) Q → pw tM (d + 1) mX7_readStair 117 [(0, .ref 300)] [] s2 Q) (v1 : Int32) (v2 : Int32) (v3 : Int32) (v4 : Int32) (vk0 : Int32) (sg : Hp) (hF : ok jI (B_X7_readStair_110 k17 k117 v1 v2 v3 v4 vk0 sg) Q) : pw tM (d + 1) mX7_readStair 110 [(0, .ref 300), (1, .int v1), (2, .int v2), (3, .int v3), (4, .int v4)] [.int vk0] sg Q := by
  unfold B_X7_readStair_110 at hF
  refine p_istore (Nat.le_of_ble_eq_true rfl) rfl dX7_readStair_110 ?_
  refine p_iload rfl dX7_readStair_112 ?_
  refine p_if_ne (tgt := 122) dX7_readStair_114 (by decide) (fun hc => ?_) (fun hc => ?_)
  · have hF := ok_f hc hF
    refine p_aload_n rfl dX7_readStair_122 ?_
    refine p_iload rfl dX7_readStair_123 ?_
    refine p_put qF_RX7_144 qP_6_6 rfl rfl rfl rfl dX7_readStair_125 ?_
    refine p_aload_n rfl dX7_readStair_128 ?_
    refine p_dup rfl dX7_readStair_129 ?_
    refine p_getI qF_RX7_127 rfl rfl dX7_readStair_130 ?_
    refine p_iconst (v := 1) (by decide) dX7_readStair_133 ?_
    refine p_iadd dX7_readStair_134 ?_
    refine p_put qF_RX7_127 qP_6_4 rfl rfl rfl rfl dX7_readStair_135 ?_
    refine p_goto (tgt := 17) dX7_readStair_138 (by decide) ?_
    exact p_lv [0, 1, 2, 3] rfl (hk17 _ _ _ _ hF)
  · have hF := ok_t hc hF
    exact p_lv [0] rfl (hk117 _ hF)
theorem b_X7_readStair_109 {d : Nat} (hd : 2 ≤ d) {Q : Option Value → Hp → Prop} {k17 : Int32 → Int32 → Int32 → Hp → Option (Int32 × Hp)} (hk17 : ∀ (z1 : Int32) (z2 : Int32) (z3 : Int32) (s2 : Hp), ok jI (k17 z1 z2 z3 s2) Q → pw tM (d + 1) mX7_readStair 17 [(0, .ref 300), (1, .int z1), (2, .int z2), (3, .int z3)] [] s2 Q) {k117 : Hp → Option (Int32 × Hp)} (hk117 : ∀ (s2 : Hp), ok jI (k117 s2) Q → pw tM (d + 1) mX7_readStair 117 [(0, .ref 300)] [] s2 Q) (v1 : Int32) (v2 : Int32) (v3 : Int32) (v4 : Int32) (sg : Hp) (hF : ok jI (B_X7_readStair_109 k17 k117 v1 v2 v3 v4 sg) Q) : pw tM (d + 1) mX7_readStair 109 [(0, .ref 300), (1, .int v1), (2, .int v2), (3, .int v3), (4, .int v4)] [] sg Q := by
  unfold B_X7_readStair_109 at hF
  refine p_iconst (v := 0) (by decide) dX7_readStair_109 ?_
  exact p_lv [0, 1, 2, 3, 4] rfl (b_X7_readStair_110 hd hk17 hk117 _ _ _ _ _ _ hF)
theorem b_X7_readStair_96 {d : Nat} (hd : 2 ≤ d) {Q : Option Value → Hp → Prop} {k17 : Int32 → Int32 → Int32 → Hp → Option (Int32 × Hp)} (hk17 : ∀ (z1 : Int32) (z2 : Int32) (z3 : Int32) (s2 : Hp), ok jI (k17 z1 z2 z3 s2) Q → pw tM (d + 1) mX7_readStair 17 [(0, .ref 300), (1, .int z1), (2, .int z2), (3, .int z3)] [] s2 Q) {k117 : Hp → Option (Int32 × Hp)} (hk117 : ∀ (s2 : Hp), ok jI (k117 s2) Q → pw tM (d + 1) mX7_readStair 117 [(0, .ref 300)] [] s2 Q) (v1 : Int32) (v2 : Int32) (v3 : Int32) (v4 : Int32) (sg : Hp) (hF : ok jI (B_X7_readStair_96 k17 k117 v1 v2 v3 v4 sg) Q) : pw tM (d + 1) mX7_readStair 96 [(0, .ref 300), (1, .int v1), (2, .int v2), (3, .int v3), (4, .int v4)] [] sg Q := by
  unfold B_X7_readStair_96 at hF
  refine p_aload_n rfl dX7_readStair_96 ?_
  refine p_getI qF_RX7_141 rfl rfl dX7_readStair_97 ?_
  refine p_bipush (v := 6) (by decide) dX7_readStair_100 ?_
  refine p_icmp_ge (tgt := 109) dX7_readStair_102 (by decide) (fun hc => ?_) (fun hc => ?_)
  · have hF := ok_t hc hF
    exact p_lv [0, 1, 2, 3, 4] rfl (b_X7_readStair_109 hd hk17 hk117 _ _ _ _ _ hF)
  · have hF := ok_f hc hF
    refine p_iconst (v := 1) (by decide) dX7_readStair_105 ?_
    refine p_goto (tgt := 110) dX7_readStair_106 (by decide) ?_
    exact p_lv [0, 1, 2, 3, 4] rfl (b_X7_readStair_110 hd hk17 hk117 _ _ _ _ _ _ hF)
theorem b_X7_readStair_80 {d : Nat} (hd : 2 ≤ d) {Q : Option Value → Hp → Prop} {k17 : Int32 → Int32 → Int32 → Hp → Option (Int32 × Hp)} (hk17 : ∀ (z1 : Int32) (z2 : Int32) (z3 : Int32) (s2 : Hp), ok jI (k17 z1 z2 z3 s2) Q → pw tM (d + 1) mX7_readStair 17 [(0, .ref 300), (1, .int z1), (2, .int z2), (3, .int z3)] [] s2 Q) {k117 : Hp → Option (Int32 × Hp)} (hk117 : ∀ (s2 : Hp), ok jI (k117 s2) Q → pw tM (d + 1) mX7_readStair 117 [(0, .ref 300)] [] s2 Q) (v1 : Int32) (v2 : Int32) (v3 : Int32) (v4 : Int32) (sg : Hp) (hF : ok jI (B_X7_readStair_80 k17 k117 v1 v2 v3 v4 sg) Q) : pw tM (d + 1) mX7_readStair 80 [(0, .ref 300), (1, .int v1), (2, .int v2), (3, .int v3), (4, .int v4)] [] sg Q := by
  unfold B_X7_readStair_80 at hF
  refine p_aload_n rfl dX7_readStair_80 ?_
  refine p_getI qF_RX7_144 rfl rfl dX7_readStair_81 ?_
  refine p_if_eq (tgt := 96) dX7_readStair_84 (by decide) (fun hc => ?_) (fun hc => ?_)
  · have hF := ok_t hc hF
    exact p_lv [0, 1, 2, 3, 4] rfl (b_X7_readStair_96 hd hk17 hk117 _ _ _ _ _ hF)
  · have hF := ok_f hc hF
    refine p_iload rfl dX7_readStair_87 ?_
    refine p_aload_n rfl dX7_readStair_89 ?_
    refine p_getI qF_RX7_144 rfl rfl dX7_readStair_90 ?_
    refine p_icmp_ne (tgt := 109) dX7_readStair_93 (by decide) (fun hc => ?_) (fun hc => ?_)
    · have hF := ok_f hc hF
      exact p_lv [0, 1, 2, 3, 4] rfl (b_X7_readStair_109 hd hk17 hk117 _ _ _ _ _ hF)
    · have hF := ok_t hc hF
      exact p_lv [0, 1, 2, 3, 4] rfl (b_X7_readStair_96 hd hk17 hk117 _ _ _ _ _ hF)
theorem b_X7_readStair_48 {d : Nat} (hd : 2 ≤ d) {Q : Option Value → Hp → Prop} {k17 : Int32 → Int32 → Int32 → Hp → Option (Int32 × Hp)} (hk17 : ∀ (z1 : Int32) (z2 : Int32) (z3 : Int32) (s2 : Hp), ok jI (k17 z1 z2 z3 s2) Q → pw tM (d + 1) mX7_readStair 17 [(0, .ref 300), (1, .int z1), (2, .int z2), (3, .int z3)] [] s2 Q) {k117 : Hp → Option (Int32 × Hp)} (hk117 : ∀ (s2 : Hp), ok jI (k117 s2) Q → pw tM (d + 1) mX7_readStair 117 [(0, .ref 300)] [] s2 Q) (v1 : Int32) (v2 : Int32) (vk0 : Int32) (sg : Hp) (hF : ok jI (B_X7_readStair_48 k17 k117 v1 v2 vk0 sg) Q) : pw tM (d + 1) mX7_readStair 48 [(0, .ref 300), (1, .int v1), (2, .int v2)] [.int vk0] sg Q := by
  unfold B_X7_readStair_48 at hF
  refine p_istore_n (Nat.le_of_ble_eq_true rfl) rfl dX7_readStair_48 ?_
  refine p_iload_n rfl dX7_readStair_49 ?_
  refine p_if_eq (tgt := 17) dX7_readStair_50 (by decide) (fun hc => ?_) (fun hc => ?_)
  · have hF := ok_t hc hF
    exact p_lv [0, 1, 2, 3] rfl (hk17 _ _ _ _ hF)
  · have hF := ok_f hc hF
    refine p_aload_n rfl dX7_readStair_53 ?_
    refine p_getR (c1 := 322) qF_RX7_49 rfl rfl dX7_readStair_54 ?_
    refine p_iload_n rfl dX7_readStair_57 ?_
    refine p_aload_n rfl dX7_readStair_58 ?_
    refine p_getI qF_RX7_127 rfl rfl dX7_readStair_59 ?_
    refine p_iadd dX7_readStair_62 ?_
    obtain ⟨hg, hF⟩ := ok_g hF
    refine p_iald rfl (inb_in hg) dX7_readStair_63 ?_
    refine p_istore (Nat.le_of_ble_eq_true rfl) rfl dX7_readStair_64 ?_
    refine p_iload rfl dX7_readStair_66 ?_
    refine p_bipush (v := 38) (by decide) dX7_readStair_68 ?_
    refine p_icmp_eq (tgt := 80) dX7_readStair_70 (by decide) (fun hc => ?_) (fun hc => ?_)
    · have hF := ok_t hc hF
      exact p_lv [0, 1, 2, 3, 4] rfl (b_X7_readStair_80 hd hk17 hk117 _ _ _ _ _ hF)
    · have hF := ok_f hc hF
      refine p_iload rfl dX7_readStair_73 ?_
      refine p_bipush (v := 43) (by decide) dX7_readStair_75 ?_
      refine p_icmp_ne (tgt := 109) dX7_readStair_77 (by decide) (fun hc => ?_) (fun hc => ?_)
      · have hF := ok_f hc hF
        exact p_lv [0, 1, 2, 3, 4] rfl (b_X7_readStair_109 hd hk17 hk117 _ _ _ _ _ hF)
      · have hF := ok_t hc hF
        exact p_lv [0, 1, 2, 3, 4] rfl (b_X7_readStair_80 hd hk17 hk117 _ _ _ _ _ hF)
theorem l_X7_readStair_17 {d : Nat} (hd : 2 ≤ d) {Q : Option Value → Hp → Prop} {k141 : Hp → Option (Int32 × Hp)} (hk141 : ∀ (s2 : Hp), ok jI (k141 s2) Q → pw tM (d + 1) mX7_readStair 141 [] [] s2 Q) {k30 : Hp → Option (Int32 × Hp)} (hk30 : ∀ (s2 : Hp), ok jI (k30 s2) Q → pw tM (d + 1) mX7_readStair 30 [(0, .ref 300)] [] s2 Q) {k117 : Hp → Option (Int32 × Hp)} (hk117 : ∀ (s2 : Hp), ok jI (k117 s2) Q → pw tM (d + 1) mX7_readStair 117 [(0, .ref 300)] [] s2 Q) : ∀ (n : Nat) (v1 : Int32) (v2 : Int32) (v3 : Int32) (sg : Hp), ok jI (L_X7_readStair_17 k141 k30 k117 n v1 v2 v3 sg) Q → pw tM (d + 1) mX7_readStair 17 [(0, .ref 300), (1, .int v1), (2, .int v2), (3, .int v3)] [] sg Q := by
  intro n
  induction n with
  | zero =>
    intro v1 v2 v3 sg hF
    obtain ⟨_, _, h9, _⟩ := hF
    cases h9
  | succ n ih =>
    intro v1 v2 v3 sg hF
    refine p_iload_n rfl dX7_readStair_17 ?_
    refine p_if_eq (tgt := 141) dX7_readStair_18 (by decide) (fun hc => ?_) (fun hc => ?_)
    · have hF := ok_t hc hF
      exact p_lv [] rfl (hk141 _ hF)
    · have hF := ok_f hc hF
      refine p_aload_n rfl dX7_readStair_21 ?_
      refine p_iload_n rfl dX7_readStair_22 ?_
      refine p_iload_n rfl dX7_readStair_23 ?_
      refine p_callV (c0 := 300) (av := [.int _, .int _]) qV_RX7_147 rfl rfl rfl rfl (Nat.le_of_ble_eq_true rfl) (Nat.le_of_ble_eq_true rfl) dX7_readStair_24 (tX7_readsItem (by omega) (ok_b hF)) (fun r0 s2 hF => ?_)
      obtain ⟨r1, rfl, hF⟩ := hF
      refine p_if_ne (tgt := 35) dX7_readStair_27 (by decide) (fun hc => ?_) (fun hc => ?_)
      · have hF := ok_f hc hF
        refine p_aload_n rfl dX7_readStair_35 ?_
        refine p_getI qF_RX7_127 rfl rfl dX7_readStair_36 ?_
        refine p_iload_n rfl dX7_readStair_39 ?_
        refine p_icmp_ge (tgt := 47) dX7_readStair_40 (by decide) (fun hc => ?_) (fun hc => ?_)
        · have hF := ok_t hc hF
          refine p_iconst (v := 0) (by decide) dX7_readStair_47 ?_
          exact p_lv [0, 1, 2] rfl (b_X7_readStair_48 hd ih hk117 _ _ _ _ hF)
        · have hF := ok_f hc hF
          refine p_iconst (v := 1) (by decide) dX7_readStair_43 ?_
          refine p_goto (tgt := 48) dX7_readStair_44 (by decide) ?_
          exact p_lv [0, 1, 2] rfl (b_X7_readStair_48 hd ih hk117 _ _ _ _ hF)
      · have hF := ok_t hc hF
        exact p_lv [0] rfl (hk30 _ hF)
theorem tX7_readStair {d : Nat} (hd : 3 ≤ d) {Q : Option Value → Hp → Prop} {a1 : Int32} {a2 : Int32} {sg : Hp} (hF : ok jI (fX7_readStair a1 a2 sg) Q) : pw tM d mX7_readStair 0 (lv_args 0 [.ref 300, .int a1, .int a2]) [] sg Q := by
  unfold fX7_readStair at hF
  obtain ⟨d, rfl⟩ : ∃ e, d = e + 1 := ⟨d - 1, by omega⟩
  have hd : 2 ≤ d := by omega
  show pw _ _ _ _ [(0, .ref 300), (1, .int a1), (2, .int a2)] [] _ _
  refine p_aload_n rfl dX7_readStair_0 ?_
  refine p_iconst (v := 0) (by decide) dX7_readStair_1 ?_
  refine p_put qF_RX7_127 qP_6_4 rfl rfl rfl rfl dX7_readStair_2 ?_
  refine p_aload_n rfl dX7_readStair_5 ?_
  refine p_iconst (v := 0) (by decide) dX7_readStair_6 ?_
  refine p_put qF_RX7_141 qP_6_5 rfl rfl rfl rfl dX7_readStair_7 ?_
  refine p_aload_n rfl dX7_readStair_10 ?_
  refine p_iconst (v := 0) (by decide) dX7_readStair_11 ?_
  refine p_put qF_RX7_144 qP_6_6 rfl rfl rfl rfl dX7_readStair_12 ?_
  refine p_iconst (v := 1) (by decide) dX7_readStair_15 ?_
  refine p_istore_n (Nat.le_of_ble_eq_true rfl) rfl dX7_readStair_16 ?_
  refine p_lv [0, 1, 2, 3] rfl (l_X7_readStair_17 hd ?_ ?_ ?_ 200 _ _ _ _ hF)
  · intro s4 hF
    refine p_bipush (v := -9) (by decide) dX7_readStair_141 ?_
    exact p_iret rfl dX7_readStair_143 (ok_r (j := jI) hF)
  · intro s6 hF
    refine p_aload_n rfl dX7_readStair_30 ?_
    refine p_getI qF_RX7_127 rfl rfl dX7_readStair_31 ?_
    exact p_iret rfl dX7_readStair_34 (ok_r (j := jI) hF)
  · intro s8 hF
    refine p_aload_n rfl dX7_readStair_117 ?_
    refine p_getI qF_RX7_127 rfl rfl dX7_readStair_118 ?_
    exact p_iret rfl dX7_readStair_121 (ok_r (j := jI) hF)
theorem b_X7_layItem_61 {d : Nat} (hd : 1 ≤ d) {Q : Option Value → Hp → Prop}   (sg : Hp) (hF : ok jV (B_X7_layItem_61   sg) Q) : pw tM (d + 1) mX7_layItem 61 [] [] sg Q := by
  unfold B_X7_layItem_61 at hF
  exact p_vret rfl dX7_layItem_61 (ok_r (j := jV) hF)
theorem b_X7_layItem_52 {d : Nat} (hd : 1 ≤ d) {Q : Option Value → Hp → Prop}  (v2 : Int32) (vk0 : Int32) (vk1 : Int32) (sg : Hp) (hF : ok jV (B_X7_layItem_52  v2 vk0 vk1 sg) Q) : pw tM (d + 1) mX7_layItem 52 [(0, .ref 300), (2, .int v2)] [.int vk0, .int vk1, .ref 300] sg Q := by
  unfold B_X7_layItem_52 at hF
  refine p_aload_n rfl dX7_layItem_52 ?_
  refine p_getR (c1 := 309) qF_RX7_22 rfl rfl dX7_layItem_53 ?_
  refine p_iload_n rfl dX7_layItem_56 ?_
  obtain ⟨hg, hF⟩ := ok_g hF
  refine p_iald rfl (inb_in hg) dX7_layItem_57 ?_
  refine p_callV (c0 := 300) (av := [.int _, .int _, .int _]) qV_RX7_124 rfl rfl rfl rfl (Nat.le_of_ble_eq_true rfl) (Nat.le_of_ble_eq_true rfl) dX7_layItem_58 (tX7_layLate (by omega) (ok_b hF)) (fun r0 s2 hF => ?_)
  obtain ⟨r1, rfl, hF⟩ := hF
  exact p_lv [] rfl (b_X7_layItem_61 hd  _ hF)
theorem tX7_layItem {d : Nat} (hd : 2 ≤ d) {Q : Option Value → Hp → Prop} {a1 : Int32} {a2 : Int32} {sg : Hp} (hF : ok jV (fX7_layItem a1 a2 sg) Q) : pw tM d mX7_layItem 0 (lv_args 0 [.ref 300, .int a1, .int a2]) [] sg Q := by
  unfold fX7_layItem at hF
  obtain ⟨d, rfl⟩ : ∃ e, d = e + 1 := ⟨d - 1, by omega⟩
  have hd : 1 ≤ d := by omega
  show pw _ _ _ _ [(0, .ref 300), (1, .int a1), (2, .int a2)] [] _ _
  refine p_aload_n rfl dX7_layItem_0 ?_
  refine p_getR (c1 := 307) qF_RX7_16 rfl rfl dX7_layItem_1 ?_
  refine p_iload_n rfl dX7_layItem_4 ?_
  obtain ⟨hg, hF⟩ := ok_g hF
  refine p_iald rfl (inb_in hg) dX7_layItem_5 ?_
  refine p_iconst (v := 1) (by decide) dX7_layItem_6 ?_
  refine p_icmp_ne (tgt := 30) dX7_layItem_7 (by decide) (fun hc => ?_) (fun hc => ?_)
  · have hF := ok_f hc hF
    refine p_aload_n rfl dX7_layItem_30 ?_
    refine p_iload_n rfl dX7_layItem_31 ?_
    refine p_aload_n rfl dX7_layItem_32 ?_
    refine p_getR (c1 := 307) qF_RX7_16 rfl rfl dX7_layItem_33 ?_
    refine p_iload_n rfl dX7_layItem_36 ?_
    obtain ⟨hg, hF⟩ := ok_g hF
    refine p_iald rfl (inb_in hg) dX7_layItem_37 ?_
    refine p_iconst (v := 2) (by decide) dX7_layItem_38 ?_
    refine p_icmp_ne (tgt := 51) dX7_layItem_39 (by decide) (fun hc => ?_) (fun hc => ?_)
    · have hF := ok_f hc hF
      refine p_iconst (v := 0) (by decide) dX7_layItem_51 ?_
      exact p_lv [0, 2] rfl (b_X7_layItem_52 hd  _ _ _ _ hF)
    · have hF := ok_t hc hF
      refine p_aload_n rfl dX7_layItem_42 ?_
      refine p_getR (c1 := 308) qF_RX7_19 rfl rfl dX7_layItem_43 ?_
      refine p_iload_n rfl dX7_layItem_46 ?_
      obtain ⟨hg, hF⟩ := ok_g hF
      refine p_iald rfl (inb_in hg) dX7_layItem_47 ?_
      refine p_goto (tgt := 52) dX7_layItem_48 (by decide) ?_
      exact p_lv [0, 2] rfl (b_X7_layItem_52 hd  _ _ _ _ hF)
  · have hF := ok_t hc hF
    refine p_aload_n rfl dX7_layItem_10 ?_
    refine p_iload_n rfl dX7_layItem_11 ?_
    refine p_aload_n rfl dX7_layItem_12 ?_
    refine p_getR (c1 := 308) qF_RX7_19 rfl rfl dX7_layItem_13 ?_
    refine p_iload_n rfl dX7_layItem_16 ?_
    obtain ⟨hg, hF⟩ := ok_g hF
    refine p_iald rfl (inb_in hg) dX7_layItem_17 ?_
    refine p_aload_n rfl dX7_layItem_18 ?_
    refine p_getR (c1 := 309) qF_RX7_22 rfl rfl dX7_layItem_19 ?_
    refine p_iload_n rfl dX7_layItem_22 ?_
    obtain ⟨hg, hF⟩ := ok_g hF
    refine p_iald rfl (inb_in hg) dX7_layItem_23 ?_
    refine p_callV (c0 := 300) (av := [.int _, .int _, .int _]) qV_RX7_120 rfl rfl rfl rfl (Nat.le_of_ble_eq_true rfl) (Nat.le_of_ble_eq_true rfl) dX7_layItem_24 (tX7_layBucket (by omega) (ok_b hF)) (fun r0 s4 hF => ?_)
    obtain ⟨r3, rfl, hF⟩ := hF
    refine p_goto (tgt := 61) dX7_layItem_27 (by decide) ?_
    exact p_lv [] rfl (b_X7_layItem_61 hd  _ hF)
theorem l_X7_alongAt_18 {d : Nat} {Q : Option Value → Hp → Prop} {k54 : Int32 → Hp → Option (Int32 × Hp)} (hk54 : ∀ (z4 : Int32) (s2 : Hp), ok jI (k54 z4 s2) Q → pw tM (d + 1) mX7_alongAt 54 [(4, .int z4)] [] s2 Q) : ∀ (n : Nat) (v1 : Int32) (v2 : Int32) (v3 : Int32) (v4 : Int32) (v5 : Int32) (sg : Hp), ok jI (L_X7_alongAt_18 k54 n v1 v2 v3 v4 v5 sg) Q → pw tM (d + 1) mX7_alongAt 18 [(0, .ref 300), (1, .int v1), (2, .int v2), (3, .int v3), (4, .int v4), (5, .int v5)] [] sg Q := by
  intro n
  induction n with
  | zero =>
    intro v1 v2 v3 v4 v5 sg hF
    obtain ⟨_, _, h9, _⟩ := hF
    cases h9
  | succ n ih =>
    intro v1 v2 v3 v4 v5 sg hF
    refine p_iload rfl dX7_alongAt_18 ?_
    refine p_iload_n rfl dX7_alongAt_20 ?_
    refine p_icmp_gt (tgt := 54) dX7_alongAt_21 (by decide) (fun hc => ?_) (fun hc => ?_)
    · have hF := ok_t hc hF
      exact p_lv [4] rfl (hk54 _ _ hF)
    · have hF := ok_f hc hF
      refine p_iload rfl dX7_alongAt_24 ?_
      refine p_aload_n rfl dX7_alongAt_26 ?_
      refine p_iload_n rfl dX7_alongAt_27 ?_
      refine p_iload rfl dX7_alongAt_28 ?_
      refine p_callV (c0 := 300) (av := [.int _, .int _]) qV_RX7_108 rfl rfl rfl rfl (Nat.le_of_ble_eq_true rfl) (Nat.le_of_ble_eq_true rfl) dX7_alongAt_30 (tX7_of (ok_b hF)) (fun r0 s6 hF => ?_)
      obtain ⟨r5, rfl, hF⟩ := hF
      refine p_aload_n rfl dX7_alongAt_33 ?_
      refine p_iload_n rfl dX7_alongAt_34 ?_
      refine p_iload_n rfl dX7_alongAt_35 ?_
      refine p_iload rfl dX7_alongAt_36 ?_
      refine p_isub dX7_alongAt_38 ?_
      refine p_callV (c0 := 300) (av := [.int _, .int _]) qV_RX7_108 rfl rfl rfl rfl (Nat.le_of_ble_eq_true rfl) (Nat.le_of_ble_eq_true rfl) dX7_alongAt_39 (tX7_of (ok_b hF)) (fun r0 s8 hF => ?_)
      obtain ⟨r7, rfl, hF⟩ := hF
      refine p_iadd dX7_alongAt_42 ?_
      refine p_callS (av := [.int _, .int _]) qS_RX7_112 rfl (Nat.le_of_ble_eq_true rfl) (Nat.le_of_ble_eq_true rfl) dX7_alongAt_43 (tX7_lesser (ok_b hF)) (fun r0 s10 hF => ?_)
      obtain ⟨r9, rfl, hF⟩ := hF
      refine p_istore (Nat.le_of_ble_eq_true rfl) rfl dX7_alongAt_46 ?_
      refine p_iinc (w := 1) (by decide) rfl (Nat.le_of_ble_eq_true rfl) rfl dX7_alongAt_48 ?_
      refine p_goto (tgt := 18) dX7_alongAt_51 (by decide) ?_
      exact p_lv [0, 1, 2, 3, 4, 5] rfl (ih _ _ _ _ _ _ hF)
theorem tX7_alongAt {d : Nat} (hd : 1 ≤ d) {Q : Option Value → Hp → Prop} {a1 : Int32} {a2 : Int32} {a3 : Int32} {sg : Hp} (hF : ok jI (fX7_alongAt a1 a2 a3 sg) Q) : pw tM d mX7_alongAt 0 (lv_args 0 [.ref 300, .int a1, .int a2, .int a3]) [] sg Q := by
  unfold fX7_alongAt at hF
  obtain ⟨d, rfl⟩ : ∃ e, d = e + 1 := ⟨d - 1, by omega⟩
  show pw _ _ _ _ [(0, .ref 300), (1, .int a1), (2, .int a2), (3, .int a3)] [] _ _
  refine p_aload_n rfl dX7_alongAt_0 ?_
  refine p_iload_n rfl dX7_alongAt_1 ?_
  refine p_iconst (v := 0) (by decide) dX7_alongAt_2 ?_
  refine p_callV (c0 := 300) (av := [.int _, .int _]) qV_RX7_108 rfl rfl rfl rfl (Nat.le_of_ble_eq_true rfl) (Nat.le_of_ble_eq_true rfl) dX7_alongAt_3 (tX7_of (ok_b hF)) (fun r0 s2 hF => ?_)
  obtain ⟨r1, rfl, hF⟩ := hF
  refine p_aload_n rfl dX7_alongAt_6 ?_
  refine p_iload_n rfl dX7_alongAt_7 ?_
  refine p_iload_n rfl dX7_alongAt_8 ?_
  refine p_callV (c0 := 300) (av := [.int _, .int _]) qV_RX7_108 rfl rfl rfl rfl (Nat.le_of_ble_eq_true rfl) (Nat.le_of_ble_eq_true rfl) dX7_alongAt_9 (tX7_of (ok_b hF)) (fun r0 s4 hF => ?_)
  obtain ⟨r3, rfl, hF⟩ := hF
  refine p_iadd dX7_alongAt_12 ?_
  refine p_istore (Nat.le_of_ble_eq_true rfl) rfl dX7_alongAt_13 ?_
  refine p_iconst (v := 1) (by decide) dX7_alongAt_15 ?_
  refine p_istore (Nat.le_of_ble_eq_true rfl) rfl dX7_alongAt_16 ?_
  refine p_lv [0, 1, 2, 3, 4, 5] rfl (l_X7_alongAt_18 ?_ 200 _ _ _ _ _ _ hF)
  intro w11_4 s12 hF
  refine p_iload rfl dX7_alongAt_54 ?_
  exact p_iret rfl dX7_alongAt_56 (ok_r (j := jI) hF)
theorem l_X7_outAt_6 {d : Nat} {Q : Option Value → Hp → Prop} {k45 : Int32 → Hp → Option (Int32 × Hp)} (hk45 : ∀ (z4 : Int32) (s2 : Hp), ok jI (k45 z4 s2) Q → pw tM (d + 1) mX7_outAt 45 [(4, .int z4)] [] s2 Q) : ∀ (n : Nat) (v1 : Int32) (v2 : Int32) (v3 : Int32) (v4 : Int32) (v5 : Int32) (sg : Hp), ok jI (L_X7_outAt_6 k45 n v1 v2 v3 v4 v5 sg) Q → pw tM (d + 1) mX7_outAt 6 [(0, .ref 300), (1, .int v1), (2, .int v2), (3, .int v3), (4, .int v4), (5, .int v5)] [] sg Q := by
  intro n
  induction n with
  | zero =>
    intro v1 v2 v3 v4 v5 sg hF
    obtain ⟨_, _, h9, _⟩ := hF
    cases h9
  | succ n ih =>
    intro v1 v2 v3 v4 v5 sg hF
    refine p_iload rfl dX7_outAt_6 ?_
    refine p_bipush (v := 40) (by decide) dX7_outAt_8 ?_
    refine p_iload_n rfl dX7_outAt_10 ?_
    refine p_isub dX7_outAt_11 ?_
    refine p_icmp_gt (tgt := 45) dX7_outAt_12 (by decide) (fun hc => ?_) (fun hc => ?_)
    · have hF := ok_t hc hF
      exact p_lv [4] rfl (hk45 _ _ hF)
    · have hF := ok_f hc hF
      refine p_iload rfl dX7_outAt_15 ?_
      refine p_aload_n rfl dX7_outAt_17 ?_
      refine p_iload_n rfl dX7_outAt_18 ?_
      refine p_iload_n rfl dX7_outAt_19 ?_
      refine p_iload rfl dX7_outAt_20 ?_
      refine p_iadd dX7_outAt_22 ?_
      refine p_callV (c0 := 300) (av := [.int _, .int _]) qV_RX7_108 rfl rfl rfl rfl (Nat.le_of_ble_eq_true rfl) (Nat.le_of_ble_eq_true rfl) dX7_outAt_23 (tX7_of (ok_b hF)) (fun r0 s2 hF => ?_)
      obtain ⟨r1, rfl, hF⟩ := hF
      refine p_aload_n rfl dX7_outAt_26 ?_
      refine p_iload_n rfl dX7_outAt_27 ?_
      refine p_iload rfl dX7_outAt_28 ?_
      refine p_callV (c0 := 300) (av := [.int _, .int _]) qV_RX7_108 rfl rfl rfl rfl (Nat.le_of_ble_eq_true rfl) (Nat.le_of_ble_eq_true rfl) dX7_outAt_30 (tX7_of (ok_b hF)) (fun r0 s4 hF => ?_)
      obtain ⟨r3, rfl, hF⟩ := hF
      refine p_isub dX7_outAt_33 ?_
      refine p_callS (av := [.int _, .int _]) qS_RX7_171 rfl (Nat.le_of_ble_eq_true rfl) (Nat.le_of_ble_eq_true rfl) dX7_outAt_34 (tX7_greater (ok_b hF)) (fun r0 s6 hF => ?_)
      obtain ⟨r5, rfl, hF⟩ := hF
      refine p_istore (Nat.le_of_ble_eq_true rfl) rfl dX7_outAt_37 ?_
      refine p_iinc (w := 1) (by decide) rfl (Nat.le_of_ble_eq_true rfl) rfl dX7_outAt_39 ?_
      refine p_goto (tgt := 6) dX7_outAt_42 (by decide) ?_
      exact p_lv [0, 1, 2, 3, 4, 5] rfl (ih _ _ _ _ _ _ hF)
theorem tX7_outAt {d : Nat} (hd : 1 ≤ d) {Q : Option Value → Hp → Prop} {a1 : Int32} {a2 : Int32} {a3 : Int32} {sg : Hp} (hF : ok jI (fX7_outAt a1 a2 a3 sg) Q) : pw tM d mX7_outAt 0 (lv_args 0 [.ref 300, .int a1, .int a2, .int a3]) [] sg Q := by
  unfold fX7_outAt at hF
  obtain ⟨d, rfl⟩ : ∃ e, d = e + 1 := ⟨d - 1, by omega⟩
  show pw _ _ _ _ [(0, .ref 300), (1, .int a1), (2, .int a2), (3, .int a3)] [] _ _
  refine p_iconst (v := 0) (by decide) dX7_outAt_0 ?_
  refine p_istore (Nat.le_of_ble_eq_true rfl) rfl dX7_outAt_1 ?_
  refine p_iconst (v := 0) (by decide) dX7_outAt_3 ?_
  refine p_istore (Nat.le_of_ble_eq_true rfl) rfl dX7_outAt_4 ?_
  refine p_lv [0, 1, 2, 3, 4, 5] rfl (l_X7_outAt_6 ?_ 200 _ _ _ _ _ _ hF)
  intro w7_4 s8 hF
  refine p_iload rfl dX7_outAt_45 ?_
  exact p_iret rfl dX7_outAt_47 (ok_r (j := jI) hF)
theorem b_X7_layBoth_176 {d : Nat} (hd : 1 ≤ d) {Q : Option Value → Hp → Prop} {k6 : Int32 → Int32 → Int32 → Int32 → Int32 → Int32 → Hp → Option (Unit × Hp)} (hk6 : ∀ (z1 : Int32) (z2 : Int32) (z3 : Int32) (z4 : Int32) (z5 : Int32) (z6 : Int32) (s2 : Hp), ok jV (k6 z1 z2 z3 z4 z5 z6 s2) Q → pw tM (d + 1) mX7_layBoth 6 [(0, .ref 300), (1, .int z1), (2, .int z2), (3, .int z3), (4, .int z4), (5, .int z5), (6, .int z6)] [] s2 Q) (v1 : Int32) (v2 : Int32) (v3 : Int32) (v4 : Int32) (v5 : Int32) (v6 : Int32) (sg : Hp) (hF : ok jV (B_X7_layBoth_176 k6 v1 v2 v3 v4 v5 v6 sg) Q) : pw tM (d + 1) mX7_layBoth 176 [(0, .ref 300), (1, .int v1), (2, .int v2), (3, .int v3), (4, .int v4), (5, .int v5), (6, .int v6)] [] sg Q := by
  unfold B_X7_layBoth_176 at hF
  refine p_iinc (w := 1) (by decide) rfl (Nat.le_of_ble_eq_true rfl) rfl dX7_layBoth_176 ?_
  refine p_goto (tgt := 6) dX7_layBoth_179 (by decide) ?_
  exact p_lv [0, 1, 2, 3, 4, 5, 6] rfl (hk6 _ _ _ _ _ _ _ hF)
theorem b_X7_layBoth_174 {d : Nat} (hd : 1 ≤ d) {Q : Option Value → Hp → Prop} {k6 : Int32 → Int32 → Int32 → Int32 → Int32 → Int32 → Hp → Option (Unit × Hp)} (hk6 : ∀ (z1 : Int32) (z2 : Int32) (z3 : Int32) (z4 : Int32) (z5 : Int32) (z6 : Int32) (s2 : Hp), ok jV (k6 z1 z2 z3 z4 z5 z6 s2) Q → pw tM (d + 1) mX7_layBoth 6 [(0, .ref 300), (1, .int z1), (2, .int z2), (3, .int z3), (4, .int z4), (5, .int z5), (6, .int z6)] [] s2 Q) (v1 : Int32) (v2 : Int32) (v3 : Int32) (v4 : Int32) (v6 : Int32) (vk0 : Int32) (sg : Hp) (hF : ok jV (B_X7_layBoth_174 k6 v1 v2 v3 v4 v6 vk0 sg) Q) : pw tM (d + 1) mX7_layBoth 174 [(0, .ref 300), (1, .int v1), (2, .int v2), (3, .int v3), (4, .int v4), (6, .int v6)] [.int vk0] sg Q := by
  unfold B_X7_layBoth_174 at hF
  refine p_istore (Nat.le_of_ble_eq_true rfl) rfl dX7_layBoth_174 ?_
  exact p_lv [0, 1, 2, 3, 4, 5, 6] rfl (b_X7_layBoth_176 hd hk6 _ _ _ _ _ _ _ hF)
theorem b_X7_layBoth_172 {d : Nat} (hd : 1 ≤ d) {Q : Option Value → Hp → Prop} {k6 : Int32 → Int32 → Int32 → Int32 → Int32 → Int32 → Hp → Option (Unit × Hp)} (hk6 : ∀ (z1 : Int32) (z2 : Int32) (z3 : Int32) (z4 : Int32) (z5 : Int32) (z6 : Int32) (s2 : Hp), ok jV (k6 z1 z2 z3 z4 z5 z6 s2) Q → pw tM (d + 1) mX7_layBoth 6 [(0, .ref 300), (1, .int z1), (2, .int z2), (3, .int z3), (4, .int z4), (5, .int z5), (6, .int z6)] [] s2 Q) (v1 : Int32) (v2 : Int32) (v3 : Int32) (v4 : Int32) (v5 : Int32) (v6 : Int32) (sg : Hp) (hF : ok jV (B_X7_layBoth_172 k6 v1 v2 v3 v4 v5 v6 sg) Q) : pw tM (d + 1) mX7_layBoth 172 [(0, .ref 300), (1, .int v1), (2, .int v2), (3, .int v3), (4, .int v4), (5, .int v5), (6, .int v6)] [] sg Q := by
  unfold B_X7_layBoth_172 at hF
  refine p_iload rfl dX7_layBoth_172 ?_
  exact p_lv [0, 1, 2, 3, 4, 6] rfl (b_X7_layBoth_174 hd hk6 _ _ _ _ _ _ _ hF)
theorem b_X7_layBoth_155 {d : Nat} (hd : 1 ≤ d) {Q : Option Value → Hp → Prop} {k6 : Int32 → Int32 → Int32 → Int32 → Int32 → Int32 → Hp → Option (Unit × Hp)} (hk6 : ∀ (z1 : Int32) (z2 : Int32) (z3 : Int32) (z4 : Int32) (z5 : Int32) (z6 : Int32) (s2 : Hp), ok jV (k6 z1 z2 z3 z4 z5 z6 s2) Q → pw tM (d + 1) mX7_layBoth 6 [(0, .ref 300), (1, .int z1), (2, .int z2), (3, .int z3), (4, .int z4), (5, .int z5), (6, .int z6)] [] s2 Q) (v1 : Int32) (v2 : Int32) (v3 : Int32) (v4 : Int32) (v5 : Int32) (v6 : Int32) (vk0 : Int64) (vk1 : Int32) (vk2 : Int32) (sg : Hp) (hF : ok jV (B_X7_layBoth_155 k6 v1 v2 v3 v4 v5 v6 vk0 vk1 vk2 sg) Q) : pw tM (d + 1) mX7_layBoth 155 [(0, .ref 300), (1, .int v1), (2, .int v2), (3, .int v3), (4, .int v4), (5, .int v5), (6, .int v6)] [.long vk0, .int vk1, .int vk2, .ref 300] sg Q := by
  unfold B_X7_layBoth_155 at hF
  refine p_callV (c0 := 300) (av := [.int _, .int _, .long _]) qV_RX7_88 rfl rfl rfl rfl (Nat.le_of_ble_eq_true rfl) (Nat.le_of_ble_eq_true rfl) dX7_layBoth_155 (tX7_set (ok_b hF)) (fun r0 s8 hF => ?_)
  obtain ⟨r7, rfl, hF⟩ := hF
  refine p_iload_n rfl dX7_layBoth_158 ?_
  refine p_iconst (v := 3) (by decide) dX7_layBoth_159 ?_
  refine p_icmp_ne (tgt := 172) dX7_layBoth_160 (by decide) (fun hc => ?_) (fun hc => ?_)
  · have hF := ok_f hc hF
    exact p_lv [0, 1, 2, 3, 4, 5, 6] rfl (b_X7_layBoth_172 hd hk6 _ _ _ _ _ _ _ hF)
  · have hF := ok_t hc hF
    refine p_iload rfl dX7_layBoth_163 ?_
    refine p_if_ne (tgt := 172) dX7_layBoth_165 (by decide) (fun hc => ?_) (fun hc => ?_)
    · have hF := ok_f hc hF
      exact p_lv [0, 1, 2, 3, 4, 5, 6] rfl (b_X7_layBoth_172 hd hk6 _ _ _ _ _ _ _ hF)
    · have hF := ok_t hc hF
      refine p_iconst (v := 0) (by decide) dX7_layBoth_168 ?_
      refine p_goto (tgt := 174) dX7_layBoth_169 (by decide) ?_
      exact p_lv [0, 1, 2, 3, 4, 6] rfl (b_X7_layBoth_174 hd hk6 _ _ _ _ _ _ _ hF)
theorem b_X7_layBoth_152 {d : Nat} (hd : 1 ≤ d) {Q : Option Value → Hp → Prop} {k6 : Int32 → Int32 → Int32 → Int32 → Int32 → Int32 → Hp → Option (Unit × Hp)} (hk6 : ∀ (z1 : Int32) (z2 : Int32) (z3 : Int32) (z4 : Int32) (z5 : Int32) (z6 : Int32) (s2 : Hp), ok jV (k6 z1 z2 z3 z4 z5 z6 s2) Q → pw tM (d + 1) mX7_layBoth 6 [(0, .ref 300), (1, .int z1), (2, .int z2), (3, .int z3), (4, .int z4), (5, .int z5), (6, .int z6)] [] s2 Q) (v1 : Int32) (v2 : Int32) (v3 : Int32) (v4 : Int32) (v5 : Int32) (v6 : Int32) (vk0 : Int32) (vk1 : Int32) (sg : Hp) (hF : ok jV (B_X7_layBoth_152 k6 v1 v2 v3 v4 v5 v6 vk0 vk1 sg) Q) : pw tM (d + 1) mX7_layBoth 152 [(0, .ref 300), (1, .int v1), (2, .int v2), (3, .int v3), (4, .int v4), (5, .int v5), (6, .int v6)] [.int vk0, .int vk1, .ref 300] sg Q := by
  unfold B_X7_layBoth_152 at hF
  refine p_iload rfl dX7_layBoth_152 ?_
  refine p_i2l dX7_layBoth_154 ?_
  exact p_lv [0, 1, 2, 3, 4, 5, 6] rfl (b_X7_layBoth_155 hd hk6 _ _ _ _ _ _ _ _ _ _ hF)
theorem b_X7_layBoth_128 {d : Nat} (hd : 1 ≤ d) {Q : Option Value → Hp → Prop} {k6 : Int32 → Int32 → Int32 → Int32 → Int32 → Int32 → Hp → Option (Unit × Hp)} (hk6 : ∀ (z1 : Int32) (z2 : Int32) (z3 : Int32) (z4 : Int32) (z5 : Int32) (z6 : Int32) (s2 : Hp), ok jV (k6 z1 z2 z3 z4 z5 z6 s2) Q → pw tM (d + 1) mX7_layBoth 6 [(0, .ref 300), (1, .int z1), (2, .int z2), (3, .int z3), (4, .int z4), (5, .int z5), (6, .int z6)] [] s2 Q) (v1 : Int32) (v2 : Int32) (v3 : Int32) (v4 : Int32) (v6 : Int32) (vk0 : Int32) (vk1 : Int32) (sg : Hp) (hF : ok jV (B_X7_layBoth_128 k6 v1 v2 v3 v4 v6 vk0 vk1 sg) Q) : pw tM (d + 1) mX7_layBoth 128 [(0, .ref 300), (1, .int v1), (2, .int v2), (3, .int v3), (4, .int v4), (6, .int v6)] [.int vk0, .int vk1] sg Q := by
  unfold B_X7_layBoth_128 at hF
  refine p_callS (av := [.int _, .int _]) qS_RX7_171 rfl (Nat.le_of_ble_eq_true rfl) (Nat.le_of_ble_eq_true rfl) dX7_layBoth_128 (tX7_greater (ok_b hF)) (fun r0 s6 hF => ?_)
  obtain ⟨r5, rfl, hF⟩ := hF
  refine p_istore (Nat.le_of_ble_eq_true rfl) rfl dX7_layBoth_131 ?_
  refine p_aload_n rfl dX7_layBoth_133 ?_
  refine p_iload rfl dX7_layBoth_134 ?_
  refine p_iload rfl dX7_layBoth_136 ?_
  refine p_iload_n rfl dX7_layBoth_138 ?_
  refine p_iconst (v := 3) (by decide) dX7_layBoth_139 ?_
  refine p_icmp_ne (tgt := 152) dX7_layBoth_140 (by decide) (fun hc => ?_) (fun hc => ?_)
  · have hF := ok_f hc hF
    exact p_lv [0, 1, 2, 3, 4, 5, 6] rfl (b_X7_layBoth_152 hd hk6 _ _ _ _ _ _ _ _ _ hF)
  · have hF := ok_t hc hF
    refine p_iload rfl dX7_layBoth_143 ?_
    refine p_if_ne (tgt := 152) dX7_layBoth_145 (by decide) (fun hc => ?_) (fun hc => ?_)
    · have hF := ok_f hc hF
      exact p_lv [0, 1, 2, 3, 4, 5, 6] rfl (b_X7_layBoth_152 hd hk6 _ _ _ _ _ _ _ _ _ hF)
    · have hF := ok_t hc hF
      refine p_lconst (v := 0) (by decide) dX7_layBoth_148 ?_
      refine p_goto (tgt := 155) dX7_layBoth_149 (by decide) ?_
      exact p_lv [0, 1, 2, 3, 4, 5, 6] rfl (b_X7_layBoth_155 hd hk6 _ _ _ _ _ _ _ _ _ _ hF)
theorem b_X7_layBoth_64 {d : Nat} (hd : 1 ≤ d) {Q : Option Value → Hp → Prop} {k6 : Int32 → Int32 → Int32 → Int32 → Int32 → Int32 → Hp → Option (Unit × Hp)} (hk6 : ∀ (z1 : Int32) (z2 : Int32) (z3 : Int32) (z4 : Int32) (z5 : Int32) (z6 : Int32) (s2 : Hp), ok jV (k6 z1 z2 z3 z4 z5 z6 s2) Q → pw tM (d + 1) mX7_layBoth 6 [(0, .ref 300), (1, .int z1), (2, .int z2), (3, .int z3), (4, .int z4), (5, .int z5), (6, .int z6)] [] s2 Q) (v1 : Int32) (v2 : Int32) (v3 : Int32) (v4 : Int32) (v5 : Int32) (v6 : Int32) (vk0 : Int64) (vk1 : Int32) (vk2 : Int32) (sg : Hp) (hF : ok jV (B_X7_layBoth_64 k6 v1 v2 v3 v4 v5 v6 vk0 vk1 vk2 sg) Q) : pw tM (d + 1) mX7_layBoth 64 [(0, .ref 300), (1, .int v1), (2, .int v2), (3, .int v3), (4, .int v4), (5, .int v5), (6, .int v6)] [.long vk0, .int vk1, .int vk2, .ref 300] sg Q := by
  unfold B_X7_layBoth_64 at hF
  refine p_callV (c0 := 300) (av := [.int _, .int _, .long _]) qV_RX7_88 rfl rfl rfl rfl (Nat.le_of_ble_eq_true rfl) (Nat.le_of_ble_eq_true rfl) dX7_layBoth_64 (tX7_set (ok_b hF)) (fun r0 s20 hF => ?_)
  obtain ⟨r19, rfl, hF⟩ := hF
  refine p_goto (tgt := 176) dX7_layBoth_67 (by decide) ?_
  exact p_lv [0, 1, 2, 3, 4, 5, 6] rfl (b_X7_layBoth_176 hd hk6 _ _ _ _ _ _ _ hF)
theorem l_X7_layBoth_6 {d : Nat} (hd : 1 ≤ d) {Q : Option Value → Hp → Prop} {k182 : Hp → Option (Unit × Hp)} (hk182 : ∀ (s2 : Hp), ok jV (k182 s2) Q → pw tM (d + 1) mX7_layBoth 182 [] [] s2 Q) : ∀ (n : Nat) (v1 : Int32) (v2 : Int32) (v3 : Int32) (v4 : Int32) (v5 : Int32) (v6 : Int32) (sg : Hp), ok jV (L_X7_layBoth_6 k182 n v1 v2 v3 v4 v5 v6 sg) Q → pw tM (d + 1) mX7_layBoth 6 [(0, .ref 300), (1, .int v1), (2, .int v2), (3, .int v3), (4, .int v4), (5, .int v5), (6, .int v6)] [] sg Q := by
  intro n
  induction n with
  | zero =>
    intro v1 v2 v3 v4 v5 v6 sg hF
    obtain ⟨_, _, h9, _⟩ := hF
    cases h9
  | succ n ih =>
    intro v1 v2 v3 v4 v5 v6 sg hF
    refine p_iload rfl dX7_layBoth_6 ?_
    refine p_bipush (v := 41) (by decide) dX7_layBoth_8 ?_
    refine p_icmp_ge (tgt := 182) dX7_layBoth_10 (by decide) (fun hc => ?_) (fun hc => ?_)
    · have hF := ok_t hc hF
      exact p_lv [] rfl (hk182 _ hF)
    · have hF := ok_f hc hF
      refine p_iload_n rfl dX7_layBoth_13 ?_
      refine p_iconst (v := 2) (by decide) dX7_layBoth_14 ?_
      refine p_icmp_ge (tgt := 70) dX7_layBoth_15 (by decide) (fun hc => ?_) (fun hc => ?_)
      · have hF := ok_t hc hF
        refine p_iload_n rfl dX7_layBoth_70 ?_
        refine p_iconst (v := 2) (by decide) dX7_layBoth_71 ?_
        refine p_icmp_ne (tgt := 95) dX7_layBoth_72 (by decide) (fun hc => ?_) (fun hc => ?_)
        · have hF := ok_f hc hF
          refine p_iload rfl dX7_layBoth_95 ?_
          refine p_iload_n rfl dX7_layBoth_97 ?_
          refine p_iconst (v := 3) (by decide) dX7_layBoth_98 ?_
          refine p_icmp_ne (tgt := 113) dX7_layBoth_99 (by decide) (fun hc => ?_) (fun hc => ?_)
          · have hF := ok_f hc hF
            refine p_aload_n rfl dX7_layBoth_113 ?_
            refine p_iload_n rfl dX7_layBoth_114 ?_
            refine p_iload rfl dX7_layBoth_115 ?_
            refine p_callV (c0 := 300) (av := [.int _, .int _]) qV_RX7_108 rfl rfl rfl rfl (Nat.le_of_ble_eq_true rfl) (Nat.le_of_ble_eq_true rfl) dX7_layBoth_117 (tX7_of (ok_b hF)) (fun r0 s2 hF => ?_)
            obtain ⟨r1, rfl, hF⟩ := hF
            refine p_aload_n rfl dX7_layBoth_120 ?_
            refine p_iload_n rfl dX7_layBoth_121 ?_
            refine p_iload rfl dX7_layBoth_122 ?_
            refine p_callV (c0 := 300) (av := [.int _, .int _]) qV_RX7_108 rfl rfl rfl rfl (Nat.le_of_ble_eq_true rfl) (Nat.le_of_ble_eq_true rfl) dX7_layBoth_124 (tX7_of (ok_b hF)) (fun r0 s4 hF => ?_)
            obtain ⟨r3, rfl, hF⟩ := hF
            refine p_isub dX7_layBoth_127 ?_
            exact p_lv [0, 1, 2, 3, 4, 6] rfl (b_X7_layBoth_128 hd ih _ _ _ _ _ _ _ _ hF)
          · have hF := ok_t hc hF
            refine p_aload_n rfl dX7_layBoth_102 ?_
            refine p_iload_n rfl dX7_layBoth_103 ?_
            refine p_iload_n rfl dX7_layBoth_104 ?_
            refine p_iload rfl dX7_layBoth_105 ?_
            refine p_callV (c0 := 300) (av := [.int _, .int _, .int _]) qV_RX7_168 rfl rfl rfl rfl (Nat.le_of_ble_eq_true rfl) (Nat.le_of_ble_eq_true rfl) dX7_layBoth_107 (tX7_outAt (by omega) (ok_b hF)) (fun r0 s10 hF => ?_)
            obtain ⟨r9, rfl, hF⟩ := hF
            refine p_goto (tgt := 128) dX7_layBoth_110 (by decide) ?_
            exact p_lv [0, 1, 2, 3, 4, 6] rfl (b_X7_layBoth_128 hd ih _ _ _ _ _ _ _ _ hF)
        · have hF := ok_t hc hF
          refine p_aload_n rfl dX7_layBoth_75 ?_
          refine p_iload rfl dX7_layBoth_76 ?_
          refine p_iload rfl dX7_layBoth_78 ?_
          refine p_aload_n rfl dX7_layBoth_80 ?_
          refine p_iload_n rfl dX7_layBoth_81 ?_
          refine p_iload_n rfl dX7_layBoth_82 ?_
          refine p_iload rfl dX7_layBoth_83 ?_
          refine p_callV (c0 := 300) (av := [.int _, .int _, .int _]) qV_RX7_164 rfl rfl rfl rfl (Nat.le_of_ble_eq_true rfl) (Nat.le_of_ble_eq_true rfl) dX7_layBoth_85 (tX7_alongAt (by omega) (ok_b hF)) (fun r0 s12 hF => ?_)
          obtain ⟨r11, rfl, hF⟩ := hF
          refine p_i2l dX7_layBoth_88 ?_
          refine p_callV (c0 := 300) (av := [.int _, .int _, .long _]) qV_RX7_88 rfl rfl rfl rfl (Nat.le_of_ble_eq_true rfl) (Nat.le_of_ble_eq_true rfl) dX7_layBoth_89 (tX7_set (ok_b hF)) (fun r0 s14 hF => ?_)
          obtain ⟨r13, rfl, hF⟩ := hF
          refine p_goto (tgt := 176) dX7_layBoth_92 (by decide) ?_
          exact p_lv [0, 1, 2, 3, 4, 5, 6] rfl (b_X7_layBoth_176 hd ih _ _ _ _ _ _ _ hF)
      · have hF := ok_f hc hF
        refine p_aload_n rfl dX7_layBoth_18 ?_
        refine p_iload rfl dX7_layBoth_19 ?_
        refine p_iload rfl dX7_layBoth_21 ?_
        refine p_iload_n rfl dX7_layBoth_23 ?_
        refine p_if_ne (tgt := 48) dX7_layBoth_24 (by decide) (fun hc => ?_) (fun hc => ?_)
        · have hF := ok_f hc hF
          refine p_aload_n rfl dX7_layBoth_48 ?_
          refine p_iload_n rfl dX7_layBoth_49 ?_
          refine p_iload rfl dX7_layBoth_50 ?_
          refine p_callV (c0 := 300) (av := [.int _, .int _]) qV_RX7_108 rfl rfl rfl rfl (Nat.le_of_ble_eq_true rfl) (Nat.le_of_ble_eq_true rfl) dX7_layBoth_52 (tX7_of (ok_b hF)) (fun r0 s16 hF => ?_)
          obtain ⟨r15, rfl, hF⟩ := hF
          refine p_aload_n rfl dX7_layBoth_55 ?_
          refine p_iload_n rfl dX7_layBoth_56 ?_
          refine p_iload rfl dX7_layBoth_57 ?_
          refine p_callV (c0 := 300) (av := [.int _, .int _]) qV_RX7_108 rfl rfl rfl rfl (Nat.le_of_ble_eq_true rfl) (Nat.le_of_ble_eq_true rfl) dX7_layBoth_59 (tX7_of (ok_b hF)) (fun r0 s18 hF => ?_)
          obtain ⟨r17, rfl, hF⟩ := hF
          refine p_iadd dX7_layBoth_62 ?_
          refine p_i2l dX7_layBoth_63 ?_
          exact p_lv [0, 1, 2, 3, 4, 5, 6] rfl (b_X7_layBoth_64 hd ih _ _ _ _ _ _ _ _ _ _ hF)
        · have hF := ok_t hc hF
          refine p_aload_n rfl dX7_layBoth_27 ?_
          refine p_iload_n rfl dX7_layBoth_28 ?_
          refine p_iload rfl dX7_layBoth_29 ?_
          refine p_callV (c0 := 300) (av := [.int _, .int _]) qV_RX7_108 rfl rfl rfl rfl (Nat.le_of_ble_eq_true rfl) (Nat.le_of_ble_eq_true rfl) dX7_layBoth_31 (tX7_of (ok_b hF)) (fun r0 s22 hF => ?_)
          obtain ⟨r21, rfl, hF⟩ := hF
          refine p_aload_n rfl dX7_layBoth_34 ?_
          refine p_iload_n rfl dX7_layBoth_35 ?_
          refine p_iload rfl dX7_layBoth_36 ?_
          refine p_callV (c0 := 300) (av := [.int _, .int _]) qV_RX7_108 rfl rfl rfl rfl (Nat.le_of_ble_eq_true rfl) (Nat.le_of_ble_eq_true rfl) dX7_layBoth_38 (tX7_of (ok_b hF)) (fun r0 s24 hF => ?_)
          obtain ⟨r23, rfl, hF⟩ := hF
          refine p_callS (av := [.int _, .int _]) qS_RX7_112 rfl (Nat.le_of_ble_eq_true rfl) (Nat.le_of_ble_eq_true rfl) dX7_layBoth_41 (tX7_lesser (ok_b hF)) (fun r0 s26 hF => ?_)
          obtain ⟨r25, rfl, hF⟩ := hF
          refine p_i2l dX7_layBoth_44 ?_
          refine p_goto (tgt := 64) dX7_layBoth_45 (by decide) ?_
          exact p_lv [0, 1, 2, 3, 4, 5, 6] rfl (b_X7_layBoth_64 hd ih _ _ _ _ _ _ _ _ _ _ hF)
theorem tX7_layBoth {d : Nat} (hd : 2 ≤ d) {Q : Option Value → Hp → Prop} {a1 : Int32} {a2 : Int32} {a3 : Int32} {a4 : Int32} {sg : Hp} (hF : ok jV (fX7_layBoth a1 a2 a3 a4 sg) Q) : pw tM d mX7_layBoth 0 (lv_args 0 [.ref 300, .int a1, .int a2, .int a3, .int a4]) [] sg Q := by
  unfold fX7_layBoth at hF
  obtain ⟨d, rfl⟩ : ∃ e, d = e + 1 := ⟨d - 1, by omega⟩
  have hd : 1 ≤ d := by omega
  show pw _ _ _ _ [(0, .ref 300), (1, .int a1), (2, .int a2), (3, .int a3), (4, .int a4)] [] _ _
  refine p_iconst (v := 0) (by decide) dX7_layBoth_0 ?_
  refine p_istore (Nat.le_of_ble_eq_true rfl) rfl dX7_layBoth_1 ?_
  refine p_iconst (v := 0) (by decide) dX7_layBoth_3 ?_
  refine p_istore (Nat.le_of_ble_eq_true rfl) rfl dX7_layBoth_4 ?_
  refine p_lv [0, 1, 2, 3, 4, 5, 6] rfl (l_X7_layBoth_6 hd ?_ 200 _ _ _ _ _ _ _ hF)
  intro s28 hF
  exact p_vret rfl dX7_layBoth_182 (ok_r (j := jV) hF)
theorem b_X7_text_122 {d : Nat} (hd : 3 ≤ d) {Q : Option Value → Hp → Prop} {k90 : Int32 → Hp → Option (Int32 × Hp)} (hk90 : ∀ (z7 : Int32) (s2 : Hp), ok jI (k90 z7 s2) Q → pw tM (d + 1) mX7_text 90 [(0, .ref 300), (7, .int z7)] [] s2 Q) (v7 : Int32) (vk0 : Int32) (sg : Hp) (hF : ok jI (B_X7_text_122 k90 v7 vk0 sg) Q) : pw tM (d + 1) mX7_text 122 [(0, .ref 300), (7, .int v7)] [.int vk0, .ref 300] sg Q := by
  unfold B_X7_text_122 at hF
  refine p_aload_n rfl dX7_text_122 ?_
  refine p_getI qF_RX7_82 rfl rfl dX7_text_123 ?_
  refine p_bipush (v := 84) (by decide) dX7_text_126 ?_
  refine p_aload_n rfl dX7_text_128 ?_
  refine p_getI qF_RX7_82 rfl rfl dX7_text_129 ?_
  refine p_callV (c0 := 300) (av := [.int _, .int _, .int _, .int _]) qV_RX7_157 rfl rfl rfl rfl (Nat.le_of_ble_eq_true rfl) (Nat.le_of_ble_eq_true rfl) dX7_text_132 (tX7_layBoth (by omega) (ok_b hF)) (fun r0 s12 hF => ?_)
  obtain ⟨r11, rfl, hF⟩ := hF
  refine p_iinc (w := 1) (by decide) rfl (Nat.le_of_ble_eq_true rfl) rfl dX7_text_135 ?_
  refine p_goto (tgt := 90) dX7_text_138 (by decide) ?_
  exact p_lv [0, 7] rfl (hk90 _ _ hF)
theorem l_X7_text_90 {d : Nat} (hd : 3 ≤ d) {Q : Option Value → Hp → Prop} {k141 : Hp → Option (Int32 × Hp)} (hk141 : ∀ (s2 : Hp), ok jI (k141 s2) Q → pw tM (d + 1) mX7_text 141 [(0, .ref 300)] [] s2 Q) : ∀ (n : Nat) (v7 : Int32) (sg : Hp), ok jI (L_X7_text_90 k141 n v7 sg) Q → pw tM (d + 1) mX7_text 90 [(0, .ref 300), (7, .int v7)] [] sg Q := by
  intro n
  induction n with
  | zero =>
    intro v7 sg hF
    obtain ⟨_, _, h9, _⟩ := hF
    cases h9
  | succ n ih =>
    intro v7 sg hF
    refine p_iload rfl dX7_text_90 ?_
    refine p_aload_n rfl dX7_text_92 ?_
    refine p_getI qF_RX7_141 rfl rfl dX7_text_93 ?_
    refine p_icmp_ge (tgt := 141) dX7_text_96 (by decide) (fun hc => ?_) (fun hc => ?_)
    · have hF := ok_t hc hF
      exact p_lv [0] rfl (hk141 _ hF)
    · have hF := ok_f hc hF
      refine p_aload_n rfl dX7_text_99 ?_
      refine p_bipush (v := 84) (by decide) dX7_text_100 ?_
      refine p_iload rfl dX7_text_102 ?_
      refine p_callV (c0 := 300) (av := [.int _, .int _]) qV_RX7_153 rfl rfl rfl rfl (Nat.le_of_ble_eq_true rfl) (Nat.le_of_ble_eq_true rfl) dX7_text_104 (tX7_layItem (by omega) (ok_b hF)) (fun r0 s10 hF => ?_)
      obtain ⟨r9, rfl, hF⟩ := hF
      refine p_aload_n rfl dX7_text_107 ?_
      refine p_aload_n rfl dX7_text_108 ?_
      refine p_getI qF_RX7_144 rfl rfl dX7_text_109 ?_
      refine p_bipush (v := 38) (by decide) dX7_text_112 ?_
      refine p_icmp_ne (tgt := 121) dX7_text_114 (by decide) (fun hc => ?_) (fun hc => ?_)
      · have hF := ok_f hc hF
        refine p_iconst (v := 1) (by decide) dX7_text_121 ?_
        exact p_lv [0, 7] rfl (b_X7_text_122 hd ih _ _ _ hF)
      · have hF := ok_t hc hF
        refine p_iconst (v := 0) (by decide) dX7_text_117 ?_
        refine p_goto (tgt := 122) dX7_text_118 (by decide) ?_
        exact p_lv [0, 7] rfl (b_X7_text_122 hd ih _ _ _ hF)
theorem b_X7_text_161 {d : Nat} (hd : 3 ≤ d) {Q : Option Value → Hp → Prop}  (vk0 : Int32) (sg : Hp) (hF : ok jI (B_X7_text_161  vk0 sg) Q) : pw tM (d + 1) mX7_text 161 [] [.int vk0, .ref 300, .ref 300] sg Q := by
  unfold B_X7_text_161 at hF
  refine p_callV (c0 := 300) (av := [.int _]) qV_RX7_115 rfl rfl rfl rfl (Nat.le_of_ble_eq_true rfl) (Nat.le_of_ble_eq_true rfl) dX7_text_161 (tX7_keep (ok_b hF)) (fun r0 s16 hF => ?_)
  obtain ⟨r15, rfl, hF⟩ := hF
  refine p_callV (c0 := 300) (av := [.int _]) qV_RX7_71 rfl rfl rfl rfl (Nat.le_of_ble_eq_true rfl) (Nat.le_of_ble_eq_true rfl) dX7_text_164 (tX7_refused (ok_b hF)) (fun r0 s18 hF => ?_)
  obtain ⟨r17, rfl, hF⟩ := hF
  exact p_iret rfl dX7_text_167 (ok_r (j := jI) hF)
theorem tX7_text {d : Nat} (hd : 4 ≤ d) {Q : Option Value → Hp → Prop} {a1 : Int32} {a2 : Int32} {a3 : Int32} {a4 : Int32} {sg : Hp} (hF : ok jI (fX7_text a1 a2 a3 a4 sg) Q) : pw tM d mX7_text 0 (lv_args 0 [.ref 300, .int a1, .int a2, .int a3, .int a4]) [] sg Q := by
  unfold fX7_text at hF
  obtain ⟨d, rfl⟩ : ∃ e, d = e + 1 := ⟨d - 1, by omega⟩
  have hd : 3 ≤ d := by omega
  show pw _ _ _ _ [(0, .ref 300), (1, .int a1), (2, .int a2), (3, .int a3), (4, .int a4)] [] _ _
  refine p_iload_n rfl dX7_text_0 ?_
  refine p_callS (av := [.int _]) qS_RX7_96 rfl (Nat.le_of_ble_eq_true rfl) (Nat.le_of_ble_eq_true rfl) dX7_text_1 (tX7_noSheet (by omega) (ok_b hF)) (fun r0 s2 hF => ?_)
  obtain ⟨r1, rfl, hF⟩ := hF
  refine p_if_eq (tgt := 13) dX7_text_4 (by decide) (fun hc => ?_) (fun hc => ?_)
  · have hF := ok_t hc hF
    refine p_aload_n rfl dX7_text_13 ?_
    refine p_iload_n rfl dX7_text_14 ?_
    refine p_iload_n rfl dX7_text_15 ?_
    refine p_iload_n rfl dX7_text_16 ?_
    refine p_iload rfl dX7_text_17 ?_
    refine p_i2l dX7_text_19 ?_
    refine p_callV (c0 := 300) (av := [.int _, .int _, .int _, .long _]) qV_RX7_100 rfl rfl rfl rfl (Nat.le_of_ble_eq_true rfl) (Nat.le_of_ble_eq_true rfl) dX7_text_20 (tX7_barred (by omega) (ok_b hF)) (fun r0 s4 hF => ?_)
    obtain ⟨r3, rfl, hF⟩ := hF
    refine p_istore (Nat.le_of_ble_eq_true rfl) rfl dX7_text_23 ?_
    refine p_iload rfl dX7_text_25 ?_
    refine p_if_ge (tgt := 33) dX7_text_27 (by decide) (fun hc => ?_) (fun hc => ?_)
    · have hF := ok_t hc hF
      refine p_aload_n rfl dX7_text_33 ?_
      refine p_bipush (v := 60) (by decide) dX7_text_34 ?_
      refine p_iload_n rfl dX7_text_36 ?_
      refine p_imul dX7_text_37 ?_
      refine p_iload_n rfl dX7_text_38 ?_
      refine p_iadd dX7_text_39 ?_
      refine p_iload rfl dX7_text_40 ?_
      refine p_callV (c0 := 300) (av := [.int _, .int _]) qV_RX7_150 rfl rfl rfl rfl (Nat.le_of_ble_eq_true rfl) (Nat.le_of_ble_eq_true rfl) dX7_text_42 (tX7_readStair (by omega) (ok_b hF)) (fun r0 s6 hF => ?_)
      obtain ⟨r5, rfl, hF⟩ := hF
      refine p_istore (Nat.le_of_ble_eq_true rfl) rfl dX7_text_45 ?_
      refine p_iload rfl dX7_text_47 ?_
      refine p_if_lt (tgt := 62) dX7_text_49 (by decide) (fun hc => ?_) (fun hc => ?_)
      · have hF := ok_t hc hF
        refine p_aload_n rfl dX7_text_62 ?_
        refine p_getI qF_RX7_82 rfl rfl dX7_text_63 ?_
        refine p_bipush (v := 24) (by decide) dX7_text_66 ?_
        refine p_icmp_ne (tgt := 78) dX7_text_68 (by decide) (fun hc => ?_) (fun hc => ?_)
        · have hF := ok_f hc hF
          refine p_aload_n rfl dX7_text_78 ?_
          refine p_aload_n rfl dX7_text_79 ?_
          refine p_getI qF_RX7_82 rfl rfl dX7_text_80 ?_
          refine p_iconst (v := 0) (by decide) dX7_text_83 ?_
          refine p_callV (c0 := 300) (av := [.int _, .int _]) qV_RX7_153 rfl rfl rfl rfl (Nat.le_of_ble_eq_true rfl) (Nat.le_of_ble_eq_true rfl) dX7_text_84 (tX7_layItem (by omega) (ok_b hF)) (fun r0 s8 hF => ?_)
          obtain ⟨r7, rfl, hF⟩ := hF
          refine p_iconst (v := 1) (by decide) dX7_text_87 ?_
          refine p_istore (Nat.le_of_ble_eq_true rfl) rfl dX7_text_88 ?_
          refine p_lv [0, 7] rfl (l_X7_text_90 hd ?_ 200 _ _ hF)
          intro s14 hF
          refine p_aload_n rfl dX7_text_141 ?_
          refine p_aload_n rfl dX7_text_142 ?_
          refine p_aload_n rfl dX7_text_143 ?_
          refine p_getI qF_RX7_141 rfl rfl dX7_text_144 ?_
          refine p_iconst (v := 1) (by decide) dX7_text_147 ?_
          refine p_icmp_le (tgt := 155) dX7_text_148 (by decide) (fun hc => ?_) (fun hc => ?_)
          · have hF := ok_t hc hF
            refine p_aload_n rfl dX7_text_155 ?_
            refine p_getR (c1 := 307) qF_RX7_16 rfl rfl dX7_text_156 ?_
            refine p_iconst (v := 0) (by decide) dX7_text_159 ?_
            obtain ⟨hg, hF⟩ := ok_g hF
            refine p_iald rfl (inb_in hg) dX7_text_160 ?_
            exact p_lv [] rfl (b_X7_text_161 hd  _ _ hF)
          · have hF := ok_f hc hF
            refine p_iconst (v := 0) (by decide) dX7_text_151 ?_
            refine p_goto (tgt := 161) dX7_text_152 (by decide) ?_
            exact p_lv [] rfl (b_X7_text_161 hd  _ _ hF)
        · have hF := ok_t hc hF
          refine p_aload_n rfl dX7_text_71 ?_
          refine p_bipush (v := -4) (by decide) dX7_text_72 ?_
          refine p_callV (c0 := 300) (av := [.int _]) qV_RX7_71 rfl rfl rfl rfl (Nat.le_of_ble_eq_true rfl) (Nat.le_of_ble_eq_true rfl) dX7_text_74 (tX7_refused (ok_b hF)) (fun r0 s20 hF => ?_)
          obtain ⟨r19, rfl, hF⟩ := hF
          exact p_iret rfl dX7_text_77 (ok_r (j := jI) hF)
      · have hF := ok_f hc hF
        refine p_aload_n rfl dX7_text_52 ?_
        refine p_bipush (v := -100) (by decide) dX7_text_53 ?_
        refine p_iload rfl dX7_text_55 ?_
        refine p_isub dX7_text_57 ?_
        refine p_callV (c0 := 300) (av := [.int _]) qV_RX7_71 rfl rfl rfl rfl (Nat.le_of_ble_eq_true rfl) (Nat.le_of_ble_eq_true rfl) dX7_text_58 (tX7_refused (ok_b hF)) (fun r0 s22 hF => ?_)
        obtain ⟨r21, rfl, hF⟩ := hF
        exact p_iret rfl dX7_text_61 (ok_r (j := jI) hF)
    · have hF := ok_f hc hF
      refine p_iload rfl dX7_text_30 ?_
      exact p_iret rfl dX7_text_32 (ok_r (j := jI) hF)
  · have hF := ok_f hc hF
    refine p_aload_n rfl dX7_text_7 ?_
    refine p_iconst (v := -1) (by decide) dX7_text_8 ?_
    refine p_callV (c0 := 300) (av := [.int _]) qV_RX7_71 rfl rfl rfl rfl (Nat.le_of_ble_eq_true rfl) (Nat.le_of_ble_eq_true rfl) dX7_text_9 (tX7_refused (ok_b hF)) (fun r0 s24 hF => ?_)
    obtain ⟨r23, rfl, hF⟩ := hF
    exact p_iret rfl dX7_text_12 (ok_r (j := jI) hF)
theorem b_X7_at_33 {d : Nat} (hd : 1 ≤ d) {Q : Option Value → Hp → Prop}  (vk0 : Int32) (sg : Hp) (hF : ok jI (B_X7_at_33  vk0 sg) Q) : pw tM (d + 1) mX7_at 33 [] [.int vk0] sg Q := by
  unfold B_X7_at_33 at hF
  exact p_iret rfl dX7_at_33 (ok_r (j := jI) hF)
theorem tX7_at {d : Nat} (hd : 2 ≤ d) {Q : Option Value → Hp → Prop} {a1 : Int32} {a2 : Int32} {sg : Hp} (hF : ok jI (fX7_at a1 a2 sg) Q) : pw tM d mX7_at 0 (lv_args 0 [.ref 300, .int a1, .int a2]) [] sg Q := by
  unfold fX7_at at hF
  obtain ⟨d, rfl⟩ : ∃ e, d = e + 1 := ⟨d - 1, by omega⟩
  have hd : 1 ≤ d := by omega
  show pw _ _ _ _ [(0, .ref 300), (1, .int a1), (2, .int a2)] [] _ _
  refine p_aload_n rfl dX7_at_0 ?_
  refine p_iload_n rfl dX7_at_1 ?_
  refine p_callV (c0 := 300) (av := [.int _]) qV_RX7_161 rfl rfl rfl rfl (Nat.le_of_ble_eq_true rfl) (Nat.le_of_ble_eq_true rfl) dX7_at_2 (tX7_noStair (by omega) (ok_b hF)) (fun r0 s2 hF => ?_)
  obtain ⟨r1, rfl, hF⟩ := hF
  refine p_if_eq (tgt := 10) dX7_at_5 (by decide) (fun hc => ?_) (fun hc => ?_)
  · have hF := ok_t hc hF
    refine p_iload_n rfl dX7_at_10 ?_
    refine p_i2l dX7_at_11 ?_
    refine p_lconst (v := 0) (by decide) dX7_at_12 ?_
    refine p_ldc2 wd_876 dX7_at_13 ?_
    refine p_callS (av := [.long _, .long _, .long _]) qS_RX7_67 rfl (Nat.le_of_ble_eq_true rfl) (Nat.le_of_ble_eq_true rfl) dX7_at_16 (tX7_in (ok_b hF)) (fun r0 s4 hF => ?_)
    obtain ⟨r3, rfl, hF⟩ := hF
    refine p_if_eq (tgt := 31) dX7_at_19 (by decide) (fun hc => ?_) (fun hc => ?_)
    · have hF := ok_t hc hF
      refine p_bipush (v := -2) (by decide) dX7_at_31 ?_
      exact p_lv [] rfl (b_X7_at_33 hd  _ _ hF)
    · have hF := ok_f hc hF
      refine p_aload_n rfl dX7_at_22 ?_
      refine p_iload_n rfl dX7_at_23 ?_
      refine p_iload_n rfl dX7_at_24 ?_
      refine p_callV (c0 := 300) (av := [.int _, .int _]) qV_RX7_108 rfl rfl rfl rfl (Nat.le_of_ble_eq_true rfl) (Nat.le_of_ble_eq_true rfl) dX7_at_25 (tX7_of (ok_b hF)) (fun r0 s6 hF => ?_)
      obtain ⟨r5, rfl, hF⟩ := hF
      refine p_goto (tgt := 33) dX7_at_28 (by decide) ?_
      exact p_lv [] rfl (b_X7_at_33 hd  _ _ hF)
  · have hF := ok_f hc hF
    refine p_iconst (v := -1) (by decide) dX7_at_8 ?_
    exact p_iret rfl dX7_at_9 (ok_r (j := jI) hF)
theorem b_X7_layMoved_86 {d : Nat} {Q : Option Value → Hp → Prop} {k3 : Int32 → Int32 → Int32 → Int32 → Int32 → Hp → Option (Unit × Hp)} (hk3 : ∀ (z1 : Int32) (z2 : Int32) (z3 : Int32) (z4 : Int32) (z5 : Int32) (s2 : Hp), ok jV (k3 z1 z2 z3 z4 z5 s2) Q → pw tM (d + 1) mX7_layMoved 3 [(0, .ref 300), (1, .int z1), (2, .int z2), (3, .int z3), (4, .int z4), (5, .int z5)] [] s2 Q) (v1 : Int32) (v2 : Int32) (v3 : Int32) (v4 : Int32) (v5 : Int32) (vk0 : Int64) (vk1 : Int32) (vk2 : Int32) (sg : Hp) (hF : ok jV (B_X7_layMoved_86 k3 v1 v2 v3 v4 v5 vk0 vk1 vk2 sg) Q) : pw tM (d + 1) mX7_layMoved 86 [(0, .ref 300), (1, .int v1), (2, .int v2), (3, .int v3), (4, .int v4), (5, .int v5)] [.long vk0, .int vk1, .int vk2, .ref 300] sg Q := by
  unfold B_X7_layMoved_86 at hF
  refine p_callV (c0 := 300) (av := [.int _, .int _, .long _]) qV_RX7_88 rfl rfl rfl rfl (Nat.le_of_ble_eq_true rfl) (Nat.le_of_ble_eq_true rfl) dX7_layMoved_86 (tX7_set (ok_b hF)) (fun r0 s6 hF => ?_)
  obtain ⟨r5, rfl, hF⟩ := hF
  refine p_iinc (w := 1) (by decide) rfl (Nat.le_of_ble_eq_true rfl) rfl dX7_layMoved_89 ?_
  refine p_goto (tgt := 3) dX7_layMoved_92 (by decide) ?_
  exact p_lv [0, 1, 2, 3, 4, 5] rfl (hk3 _ _ _ _ _ _ hF)
theorem b_X7_layMoved_38 {d : Nat} {Q : Option Value → Hp → Prop} {k3 : Int32 → Int32 → Int32 → Int32 → Int32 → Hp → Option (Unit × Hp)} (hk3 : ∀ (z1 : Int32) (z2 : Int32) (z3 : Int32) (z4 : Int32) (z5 : Int32) (s2 : Hp), ok jV (k3 z1 z2 z3 z4 z5 s2) Q → pw tM (d + 1) mX7_layMoved 3 [(0, .ref 300), (1, .int z1), (2, .int z2), (3, .int z3), (4, .int z4), (5, .int z5)] [] s2 Q) (v1 : Int32) (v2 : Int32) (v3 : Int32) (v4 : Int32) (v5 : Int32) (vk0 : Int32) (sg : Hp) (hF : ok jV (B_X7_layMoved_38 k3 v1 v2 v3 v4 v5 vk0 sg) Q) : pw tM (d + 1) mX7_layMoved 38 [(0, .ref 300), (1, .int v1), (2, .int v2), (3, .int v3), (4, .int v4), (5, .int v5)] [.int vk0] sg Q := by
  unfold B_X7_layMoved_38 at hF
  refine p_istore (Nat.le_of_ble_eq_true rfl) rfl dX7_layMoved_38 ?_
  refine p_aload_n rfl dX7_layMoved_40 ?_
  refine p_iload rfl dX7_layMoved_41 ?_
  refine p_iload rfl dX7_layMoved_43 ?_
  refine p_iload rfl dX7_layMoved_45 ?_
  refine p_if_eq (tgt := 54) dX7_layMoved_47 (by decide) (fun hc => ?_) (fun hc => ?_)
  · have hF := ok_t hc hF
    refine p_iload_n rfl dX7_layMoved_54 ?_
    refine p_if_ne (tgt := 71) dX7_layMoved_55 (by decide) (fun hc => ?_) (fun hc => ?_)
    · have hF := ok_f hc hF
      refine p_aload_n rfl dX7_layMoved_71 ?_
      refine p_iload_n rfl dX7_layMoved_72 ?_
      refine p_bipush (v := 40) (by decide) dX7_layMoved_73 ?_
      refine p_iload rfl dX7_layMoved_75 ?_
      refine p_iload_n rfl dX7_layMoved_77 ?_
      refine p_iadd dX7_layMoved_78 ?_
      refine p_callS (av := [.int _, .int _]) qS_RX7_112 rfl (Nat.le_of_ble_eq_true rfl) (Nat.le_of_ble_eq_true rfl) dX7_layMoved_79 (tX7_lesser (ok_b hF)) (fun r0 s2 hF => ?_)
      obtain ⟨r1, rfl, hF⟩ := hF
      refine p_callV (c0 := 300) (av := [.int _, .int _]) qV_RX7_108 rfl rfl rfl rfl (Nat.le_of_ble_eq_true rfl) (Nat.le_of_ble_eq_true rfl) dX7_layMoved_82 (tX7_of (ok_b hF)) (fun r0 s4 hF => ?_)
      obtain ⟨r3, rfl, hF⟩ := hF
      refine p_i2l dX7_layMoved_85 ?_
      exact p_lv [0, 1, 2, 3, 4, 5] rfl (b_X7_layMoved_86 hk3 _ _ _ _ _ _ _ _ _ hF)
    · have hF := ok_t hc hF
      refine p_aload_n rfl dX7_layMoved_58 ?_
      refine p_iload_n rfl dX7_layMoved_59 ?_
      refine p_iload rfl dX7_layMoved_60 ?_
      refine p_iload_n rfl dX7_layMoved_62 ?_
      refine p_isub dX7_layMoved_63 ?_
      refine p_callV (c0 := 300) (av := [.int _, .int _]) qV_RX7_108 rfl rfl rfl rfl (Nat.le_of_ble_eq_true rfl) (Nat.le_of_ble_eq_true rfl) dX7_layMoved_64 (tX7_of (ok_b hF)) (fun r0 s8 hF => ?_)
      obtain ⟨r7, rfl, hF⟩ := hF
      refine p_i2l dX7_layMoved_67 ?_
      refine p_goto (tgt := 86) dX7_layMoved_68 (by decide) ?_
      exact p_lv [0, 1, 2, 3, 4, 5] rfl (b_X7_layMoved_86 hk3 _ _ _ _ _ _ _ _ _ hF)
  · have hF := ok_f hc hF
    refine p_lconst (v := 0) (by decide) dX7_layMoved_50 ?_
    refine p_goto (tgt := 86) dX7_layMoved_51 (by decide) ?_
    exact p_lv [0, 1, 2, 3, 4, 5] rfl (b_X7_layMoved_86 hk3 _ _ _ _ _ _ _ _ _ hF)
theorem l_X7_layMoved_3 {d : Nat} {Q : Option Value → Hp → Prop} {k95 : Hp → Option (Unit × Hp)} (hk95 : ∀ (s2 : Hp), ok jV (k95 s2) Q → pw tM (d + 1) mX7_layMoved 95 [] [] s2 Q) : ∀ (n : Nat) (v1 : Int32) (v2 : Int32) (v3 : Int32) (v4 : Int32) (v5 : Int32) (sg : Hp), ok jV (L_X7_layMoved_3 k95 n v1 v2 v3 v4 v5 sg) Q → pw tM (d + 1) mX7_layMoved 3 [(0, .ref 300), (1, .int v1), (2, .int v2), (3, .int v3), (4, .int v4), (5, .int v5)] [] sg Q := by
  intro n
  induction n with
  | zero =>
    intro v1 v2 v3 v4 v5 sg hF
    obtain ⟨_, _, h9, _⟩ := hF
    cases h9
  | succ n ih =>
    intro v1 v2 v3 v4 v5 sg hF
    refine p_iload rfl dX7_layMoved_3 ?_
    refine p_bipush (v := 41) (by decide) dX7_layMoved_5 ?_
    refine p_icmp_ge (tgt := 95) dX7_layMoved_7 (by decide) (fun hc => ?_) (fun hc => ?_)
    · have hF := ok_t hc hF
      exact p_lv [] rfl (hk95 _ hF)
    · have hF := ok_f hc hF
      refine p_iload_n rfl dX7_layMoved_10 ?_
      refine p_if_ne (tgt := 28) dX7_layMoved_11 (by decide) (fun hc => ?_) (fun hc => ?_)
      · have hF := ok_f hc hF
        refine p_iload rfl dX7_layMoved_28 ?_
        refine p_if_ne (tgt := 37) dX7_layMoved_30 (by decide) (fun hc => ?_) (fun hc => ?_)
        · have hF := ok_f hc hF
          refine p_iconst (v := 0) (by decide) dX7_layMoved_37 ?_
          exact p_lv [0, 1, 2, 3, 4, 5] rfl (b_X7_layMoved_38 ih _ _ _ _ _ _ _ hF)
        · have hF := ok_t hc hF
          refine p_iconst (v := 1) (by decide) dX7_layMoved_33 ?_
          refine p_goto (tgt := 38) dX7_layMoved_34 (by decide) ?_
          exact p_lv [0, 1, 2, 3, 4, 5] rfl (b_X7_layMoved_38 ih _ _ _ _ _ _ _ hF)
      · have hF := ok_t hc hF
        refine p_iload rfl dX7_layMoved_14 ?_
        refine p_iload_n rfl dX7_layMoved_16 ?_
        refine p_icmp_ge (tgt := 24) dX7_layMoved_17 (by decide) (fun hc => ?_) (fun hc => ?_)
        · have hF := ok_t hc hF
          refine p_iconst (v := 0) (by decide) dX7_layMoved_24 ?_
          refine p_goto (tgt := 38) dX7_layMoved_25 (by decide) ?_
          exact p_lv [0, 1, 2, 3, 4, 5] rfl (b_X7_layMoved_38 ih _ _ _ _ _ _ _ hF)
        · have hF := ok_f hc hF
          refine p_iconst (v := 1) (by decide) dX7_layMoved_20 ?_
          refine p_goto (tgt := 38) dX7_layMoved_21 (by decide) ?_
          exact p_lv [0, 1, 2, 3, 4, 5] rfl (b_X7_layMoved_38 ih _ _ _ _ _ _ _ hF)
theorem tX7_layMoved {d : Nat} (hd : 1 ≤ d) {Q : Option Value → Hp → Prop} {a1 : Int32} {a2 : Int32} {a3 : Int32} {a4 : Int32} {sg : Hp} (hF : ok jV (fX7_layMoved a1 a2 a3 a4 sg) Q) : pw tM d mX7_layMoved 0 (lv_args 0 [.ref 300, .int a1, .int a2, .int a3, .int a4]) [] sg Q := by
  unfold fX7_layMoved at hF
  obtain ⟨d, rfl⟩ : ∃ e, d = e + 1 := ⟨d - 1, by omega⟩
  show pw _ _ _ _ [(0, .ref 300), (1, .int a1), (2, .int a2), (3, .int a3), (4, .int a4)] [] _ _
  refine p_iconst (v := 0) (by decide) dX7_layMoved_0 ?_
  refine p_istore (Nat.le_of_ble_eq_true rfl) rfl dX7_layMoved_1 ?_
  refine p_lv [0, 1, 2, 3, 4, 5] rfl (l_X7_layMoved_3 ?_ 200 _ _ _ _ _ _ hF)
  intro s10 hF
  exact p_vret rfl dX7_layMoved_95 (ok_r (j := jV) hF)
theorem b_X7_make_16 {d : Nat} (hd : 2 ≤ d) {Q : Option Value → Hp → Prop}   (sg : Hp) (hF : ok jI (B_X7_make_16   sg) Q) : pw tM (d + 1) mX7_make 16 [] [] sg Q := by
  unfold B_X7_make_16 at hF
  refine p_iconst (v := -1) (by decide) dX7_make_16 ?_
  exact p_iret rfl dX7_make_17 (ok_r (j := jI) hF)
theorem tX7_make {d : Nat} (hd : 3 ≤ d) {Q : Option Value → Hp → Prop} {a1 : Int32} {a2 : Int32} {a3 : Int32} {sg : Hp} (hF : ok jI (fX7_make a1 a2 a3 sg) Q) : pw tM d mX7_make 0 (lv_args 0 [.ref 300, .int a1, .int a2, .int a3]) [] sg Q := by
  unfold fX7_make at hF
  obtain ⟨d, rfl⟩ : ∃ e, d = e + 1 := ⟨d - 1, by omega⟩
  have hd : 2 ≤ d := by omega
  show pw _ _ _ _ [(0, .ref 300), (1, .int a1), (2, .int a2), (3, .int a3)] [] _ _
  refine p_aload_n rfl dX7_make_0 ?_
  refine p_iload_n rfl dX7_make_1 ?_
  refine p_callV (c0 := 300) (av := [.int _]) qV_RX7_161 rfl rfl rfl rfl (Nat.le_of_ble_eq_true rfl) (Nat.le_of_ble_eq_true rfl) dX7_make_2 (tX7_noStair (by omega) (ok_b hF)) (fun r0 s2 hF => ?_)
  obtain ⟨r1, rfl, hF⟩ := hF
  refine p_if_ne (tgt := 16) dX7_make_5 (by decide) (fun hc => ?_) (fun hc => ?_)
  · have hF := ok_f hc hF
    exact p_lv [] rfl (b_X7_make_16 hd  _ hF)
  · have hF := ok_t hc hF
    refine p_aload_n rfl dX7_make_8 ?_
    refine p_iload_n rfl dX7_make_9 ?_
    refine p_callV (c0 := 300) (av := [.int _]) qV_RX7_161 rfl rfl rfl rfl (Nat.le_of_ble_eq_true rfl) (Nat.le_of_ble_eq_true rfl) dX7_make_10 (tX7_noStair (by omega) (ok_b hF)) (fun r0 s4 hF => ?_)
    obtain ⟨r3, rfl, hF⟩ := hF
    refine p_if_eq (tgt := 18) dX7_make_13 (by decide) (fun hc => ?_) (fun hc => ?_)
    · have hF := ok_t hc hF
      refine p_iload_n rfl dX7_make_18 ?_
      refine p_i2l dX7_make_19 ?_
      refine p_lconst (v := 0) (by decide) dX7_make_20 ?_
      refine p_ldc2 wd_961 dX7_make_21 ?_
      refine p_callS (av := [.long _, .long _, .long _]) qS_RX7_67 rfl (Nat.le_of_ble_eq_true rfl) (Nat.le_of_ble_eq_true rfl) dX7_make_24 (tX7_in (ok_b hF)) (fun r0 s6 hF => ?_)
      obtain ⟨r5, rfl, hF⟩ := hF
      refine p_if_ne (tgt := 33) dX7_make_27 (by decide) (fun hc => ?_) (fun hc => ?_)
      · have hF := ok_f hc hF
        refine p_aload_n rfl dX7_make_33 ?_
        refine p_getI qF_RX7_82 rfl rfl dX7_make_34 ?_
        refine p_bipush (v := 24) (by decide) dX7_make_37 ?_
        refine p_icmp_ne (tgt := 45) dX7_make_39 (by decide) (fun hc => ?_) (fun hc => ?_)
        · have hF := ok_f hc hF
          refine p_aload_n rfl dX7_make_45 ?_
          refine p_iload_n rfl dX7_make_46 ?_
          refine p_iload_n rfl dX7_make_47 ?_
          refine p_iload_n rfl dX7_make_48 ?_
          refine p_aload_n rfl dX7_make_49 ?_
          refine p_getI qF_RX7_82 rfl rfl dX7_make_50 ?_
          refine p_callV (c0 := 300) (av := [.int _, .int _, .int _, .int _]) qV_RX7_157 rfl rfl rfl rfl (Nat.le_of_ble_eq_true rfl) (Nat.le_of_ble_eq_true rfl) dX7_make_53 (tX7_layBoth (by omega) (ok_b hF)) (fun r0 s8 hF => ?_)
          obtain ⟨r7, rfl, hF⟩ := hF
          refine p_aload_n rfl dX7_make_56 ?_
          refine p_iconst (v := 0) (by decide) dX7_make_57 ?_
          refine p_callV (c0 := 300) (av := [.int _]) qV_RX7_115 rfl rfl rfl rfl (Nat.le_of_ble_eq_true rfl) (Nat.le_of_ble_eq_true rfl) dX7_make_58 (tX7_keep (ok_b hF)) (fun r0 s10 hF => ?_)
          obtain ⟨r9, rfl, hF⟩ := hF
          exact p_iret rfl dX7_make_61 (ok_r (j := jI) hF)
        · have hF := ok_t hc hF
          refine p_bipush (v := -4) (by decide) dX7_make_42 ?_
          exact p_iret rfl dX7_make_44 (ok_r (j := jI) hF)
      · have hF := ok_t hc hF
        refine p_bipush (v := -2) (by decide) dX7_make_30 ?_
        exact p_iret rfl dX7_make_32 (ok_r (j := jI) hF)
    · have hF := ok_f hc hF
      exact p_lv [] rfl (b_X7_make_16 hd  _ hF)
theorem b_X7_move_32 {d : Nat} (hd : 1 ≤ d) {Q : Option Value → Hp → Prop}   (sg : Hp) (hF : ok jI (B_X7_move_32   sg) Q) : pw tM (d + 1) mX7_move 32 [] [] sg Q := by
  unfold B_X7_move_32 at hF
  refine p_bipush (v := -2) (by decide) dX7_move_32 ?_
  exact p_iret rfl dX7_move_34 (ok_r (j := jI) hF)
theorem tX7_move {d : Nat} (hd : 2 ≤ d) {Q : Option Value → Hp → Prop} {a1 : Int32} {a2 : Int32} {a3 : Int32} {sg : Hp} (hF : ok jI (fX7_move a1 a2 a3 sg) Q) : pw tM d mX7_move 0 (lv_args 0 [.ref 300, .int a1, .int a2, .int a3]) [] sg Q := by
  unfold fX7_move at hF
  obtain ⟨d, rfl⟩ : ∃ e, d = e + 1 := ⟨d - 1, by omega⟩
  have hd : 1 ≤ d := by omega
  show pw _ _ _ _ [(0, .ref 300), (1, .int a1), (2, .int a2), (3, .int a3)] [] _ _
  refine p_aload_n rfl dX7_move_0 ?_
  refine p_iload_n rfl dX7_move_1 ?_
  refine p_callV (c0 := 300) (av := [.int _]) qV_RX7_161 rfl rfl rfl rfl (Nat.le_of_ble_eq_true rfl) (Nat.le_of_ble_eq_true rfl) dX7_move_2 (tX7_noStair (by omega) (ok_b hF)) (fun r0 s2 hF => ?_)
  obtain ⟨r1, rfl, hF⟩ := hF
  refine p_if_eq (tgt := 10) dX7_move_5 (by decide) (fun hc => ?_) (fun hc => ?_)
  · have hF := ok_t hc hF
    refine p_iload_n rfl dX7_move_10 ?_
    refine p_i2l dX7_move_11 ?_
    refine p_lconst (v := 0) (by decide) dX7_move_12 ?_
    refine p_lconst (v := 1) (by decide) dX7_move_13 ?_
    refine p_callS (av := [.long _, .long _, .long _]) qS_RX7_67 rfl (Nat.le_of_ble_eq_true rfl) (Nat.le_of_ble_eq_true rfl) dX7_move_14 (tX7_in (ok_b hF)) (fun r0 s4 hF => ?_)
    obtain ⟨r3, rfl, hF⟩ := hF
    refine p_if_eq (tgt := 32) dX7_move_17 (by decide) (fun hc => ?_) (fun hc => ?_)
    · have hF := ok_t hc hF
      exact p_lv [] rfl (b_X7_move_32 hd  _ hF)
    · have hF := ok_f hc hF
      refine p_iload_n rfl dX7_move_20 ?_
      refine p_i2l dX7_move_21 ?_
      refine p_lconst (v := 0) (by decide) dX7_move_22 ?_
      refine p_ldc2 wd_876 dX7_move_23 ?_
      refine p_callS (av := [.long _, .long _, .long _]) qS_RX7_67 rfl (Nat.le_of_ble_eq_true rfl) (Nat.le_of_ble_eq_true rfl) dX7_move_26 (tX7_in (ok_b hF)) (fun r0 s6 hF => ?_)
      obtain ⟨r5, rfl, hF⟩ := hF
      refine p_if_ne (tgt := 35) dX7_move_29 (by decide) (fun hc => ?_) (fun hc => ?_)
      · have hF := ok_f hc hF
        refine p_aload_n rfl dX7_move_35 ?_
        refine p_getI qF_RX7_82 rfl rfl dX7_move_36 ?_
        refine p_bipush (v := 24) (by decide) dX7_move_39 ?_
        refine p_icmp_ne (tgt := 47) dX7_move_41 (by decide) (fun hc => ?_) (fun hc => ?_)
        · have hF := ok_f hc hF
          refine p_aload_n rfl dX7_move_47 ?_
          refine p_iload_n rfl dX7_move_48 ?_
          refine p_iload_n rfl dX7_move_49 ?_
          refine p_iload_n rfl dX7_move_50 ?_
          refine p_aload_n rfl dX7_move_51 ?_
          refine p_getI qF_RX7_82 rfl rfl dX7_move_52 ?_
          refine p_callV (c0 := 300) (av := [.int _, .int _, .int _, .int _]) qV_RX7_176 rfl rfl rfl rfl (Nat.le_of_ble_eq_true rfl) (Nat.le_of_ble_eq_true rfl) dX7_move_55 (tX7_layMoved (by omega) (ok_b hF)) (fun r0 s8 hF => ?_)
          obtain ⟨r7, rfl, hF⟩ := hF
          refine p_aload_n rfl dX7_move_58 ?_
          refine p_iconst (v := 0) (by decide) dX7_move_59 ?_
          refine p_callV (c0 := 300) (av := [.int _]) qV_RX7_115 rfl rfl rfl rfl (Nat.le_of_ble_eq_true rfl) (Nat.le_of_ble_eq_true rfl) dX7_move_60 (tX7_keep (ok_b hF)) (fun r0 s10 hF => ?_)
          obtain ⟨r9, rfl, hF⟩ := hF
          exact p_iret rfl dX7_move_63 (ok_r (j := jI) hF)
        · have hF := ok_t hc hF
          refine p_bipush (v := -4) (by decide) dX7_move_44 ?_
          exact p_iret rfl dX7_move_46 (ok_r (j := jI) hF)
      · have hF := ok_t hc hF
        exact p_lv [] rfl (b_X7_move_32 hd  _ hF)
  · have hF := ok_f hc hF
    refine p_iconst (v := -1) (by decide) dX7_move_8 ?_
    exact p_iret rfl dX7_move_9 (ok_r (j := jI) hF)
theorem l_X7_laterBy_3 {d : Nat} {Q : Option Value → Hp → Prop} {k39 : Hp → Option (Int32 × Hp)} (hk39 : ∀ (s2 : Hp), ok jI (k39 s2) Q → pw tM (d + 1) mX7_laterBy 39 [] [] s2 Q) {k30 : Int32 → Hp → Option (Int32 × Hp)} (hk30 : ∀ (z4 : Int32) (s2 : Hp), ok jI (k30 z4 s2) Q → pw tM (d + 1) mX7_laterBy 30 [(4, .int z4)] [] s2 Q) : ∀ (n : Nat) (v1 : Int32) (v2 : Int32) (v3 : Int32) (v4 : Int32) (sg : Hp), ok jI (L_X7_laterBy_3 k39 k30 n v1 v2 v3 v4 sg) Q → pw tM (d + 1) mX7_laterBy 3 [(0, .ref 300), (1, .int v1), (2, .int v2), (3, .int v3), (4, .int v4)] [] sg Q := by
  intro n
  induction n with
  | zero =>
    intro v1 v2 v3 v4 sg hF
    obtain ⟨_, _, h9, _⟩ := hF
    cases h9
  | succ n ih =>
    intro v1 v2 v3 v4 sg hF
    refine p_iload_n rfl dX7_laterBy_3 ?_
    refine p_iload rfl dX7_laterBy_4 ?_
    refine p_iadd dX7_laterBy_6 ?_
    refine p_bipush (v := 41) (by decide) dX7_laterBy_7 ?_
    refine p_icmp_ge (tgt := 39) dX7_laterBy_9 (by decide) (fun hc => ?_) (fun hc => ?_)
    · have hF := ok_t hc hF
      exact p_lv [] rfl (hk39 _ hF)
    · have hF := ok_f hc hF
      refine p_aload_n rfl dX7_laterBy_12 ?_
      refine p_iload_n rfl dX7_laterBy_13 ?_
      refine p_iload_n rfl dX7_laterBy_14 ?_
      refine p_iload rfl dX7_laterBy_15 ?_
      refine p_iadd dX7_laterBy_17 ?_
      refine p_callV (c0 := 300) (av := [.int _, .int _]) qV_RX7_108 rfl rfl rfl rfl (Nat.le_of_ble_eq_true rfl) (Nat.le_of_ble_eq_true rfl) dX7_laterBy_18 (tX7_of (ok_b hF)) (fun r0 s2 hF => ?_)
      obtain ⟨r1, rfl, hF⟩ := hF
      refine p_aload_n rfl dX7_laterBy_21 ?_
      refine p_iload_n rfl dX7_laterBy_22 ?_
      refine p_iload_n rfl dX7_laterBy_23 ?_
      refine p_callV (c0 := 300) (av := [.int _, .int _]) qV_RX7_108 rfl rfl rfl rfl (Nat.le_of_ble_eq_true rfl) (Nat.le_of_ble_eq_true rfl) dX7_laterBy_24 (tX7_of (ok_b hF)) (fun r0 s4 hF => ?_)
      obtain ⟨r3, rfl, hF⟩ := hF
      refine p_icmp_lt (tgt := 33) dX7_laterBy_27 (by decide) (fun hc => ?_) (fun hc => ?_)
      · have hF := ok_t hc hF
        refine p_iinc (w := 1) (by decide) rfl (Nat.le_of_ble_eq_true rfl) rfl dX7_laterBy_33 ?_
        refine p_goto (tgt := 3) dX7_laterBy_36 (by decide) ?_
        exact p_lv [0, 1, 2, 3, 4] rfl (ih _ _ _ _ _ hF)
      · have hF := ok_f hc hF
        exact p_lv [4] rfl (hk30 _ _ hF)
theorem tX7_laterBy {d : Nat} (hd : 1 ≤ d) {Q : Option Value → Hp → Prop} {a1 : Int32} {a2 : Int32} {a3 : Int32} {sg : Hp} (hF : ok jI (fX7_laterBy a1 a2 a3 sg) Q) : pw tM d mX7_laterBy 0 (lv_args 0 [.ref 300, .int a1, .int a2, .int a3]) [] sg Q := by
  unfold fX7_laterBy at hF
  obtain ⟨d, rfl⟩ : ∃ e, d = e + 1 := ⟨d - 1, by omega⟩
  show pw _ _ _ _ [(0, .ref 300), (1, .int a1), (2, .int a2), (3, .int a3)] [] _ _
  refine p_iconst (v := 0) (by decide) dX7_laterBy_0 ?_
  refine p_istore (Nat.le_of_ble_eq_true rfl) rfl dX7_laterBy_1 ?_
  refine p_lv [0, 1, 2, 3, 4] rfl (l_X7_laterBy_3 ?_ ?_ 200 _ _ _ _ _ hF)
  · intro s6 hF
    refine p_bipush (v := -9) (by decide) dX7_laterBy_39 ?_
    exact p_iret rfl dX7_laterBy_41 (ok_r (j := jI) hF)
  · intro w7_4 s8 hF
    refine p_iload rfl dX7_laterBy_30 ?_
    exact p_iret rfl dX7_laterBy_32 (ok_r (j := jI) hF)
theorem l_X7_waitOf_6 {d : Nat} (hd : 1 ≤ d) {Q : Option Value → Hp → Prop} {k45 : Int32 → Hp → Option (Int32 × Hp)} (hk45 : ∀ (z4 : Int32) (s2 : Hp), ok jI (k45 z4 s2) Q → pw tM (d + 1) mX7_waitOf 45 [(4, .int z4)] [] s2 Q) {k27 : Hp → Option (Int32 × Hp)} (hk27 : ∀ (s2 : Hp), ok jI (k27 s2) Q → pw tM (d + 1) mX7_waitOf 27 [] [] s2 Q) : ∀ (n : Nat) (v1 : Int32) (v2 : Int32) (v3 : Int32) (v4 : Int32) (v5 : Int32) (sg : Hp), ok jI (L_X7_waitOf_6 k45 k27 n v1 v2 v3 v4 v5 sg) Q → pw tM (d + 1) mX7_waitOf 6 [(0, .ref 300), (1, .int v1), (2, .int v2), (3, .int v3), (4, .int v4), (5, .int v5)] [] sg Q := by
  intro n
  induction n with
  | zero =>
    intro v1 v2 v3 v4 v5 sg hF
    obtain ⟨_, _, h9, _⟩ := hF
    cases h9
  | succ n ih =>
    intro v1 v2 v3 v4 v5 sg hF
    refine p_iload rfl dX7_waitOf_6 ?_
    refine p_iload_n rfl dX7_waitOf_8 ?_
    refine p_icmp_gt (tgt := 45) dX7_waitOf_9 (by decide) (fun hc => ?_) (fun hc => ?_)
    · have hF := ok_t hc hF
      exact p_lv [4] rfl (hk45 _ _ hF)
    · have hF := ok_f hc hF
      refine p_aload_n rfl dX7_waitOf_12 ?_
      refine p_iload_n rfl dX7_waitOf_13 ?_
      refine p_iload_n rfl dX7_waitOf_14 ?_
      refine p_iload rfl dX7_waitOf_15 ?_
      refine p_callV (c0 := 300) (av := [.int _, .int _, .int _]) qV_RX7_179 rfl rfl rfl rfl (Nat.le_of_ble_eq_true rfl) (Nat.le_of_ble_eq_true rfl) dX7_waitOf_17 (tX7_laterBy (by omega) (ok_b hF)) (fun r0 s2 hF => ?_)
      obtain ⟨r1, rfl, hF⟩ := hF
      refine p_istore (Nat.le_of_ble_eq_true rfl) rfl dX7_waitOf_20 ?_
      refine p_iload rfl dX7_waitOf_22 ?_
      refine p_if_ge (tgt := 30) dX7_waitOf_24 (by decide) (fun hc => ?_) (fun hc => ?_)
      · have hF := ok_t hc hF
        refine p_iload rfl dX7_waitOf_30 ?_
        refine p_iload rfl dX7_waitOf_32 ?_
        refine p_callS (av := [.int _, .int _]) qS_RX7_171 rfl (Nat.le_of_ble_eq_true rfl) (Nat.le_of_ble_eq_true rfl) dX7_waitOf_34 (tX7_greater (ok_b hF)) (fun r0 s4 hF => ?_)
        obtain ⟨r3, rfl, hF⟩ := hF
        refine p_istore (Nat.le_of_ble_eq_true rfl) rfl dX7_waitOf_37 ?_
        refine p_iinc (w := 1) (by decide) rfl (Nat.le_of_ble_eq_true rfl) rfl dX7_waitOf_39 ?_
        refine p_goto (tgt := 6) dX7_waitOf_42 (by decide) ?_
        exact p_lv [0, 1, 2, 3, 4, 5] rfl (ih _ _ _ _ _ _ hF)
      · have hF := ok_f hc hF
        exact p_lv [] rfl (hk27 _ hF)
theorem tX7_waitOf {d : Nat} (hd : 2 ≤ d) {Q : Option Value → Hp → Prop} {a1 : Int32} {a2 : Int32} {a3 : Int32} {sg : Hp} (hF : ok jI (fX7_waitOf a1 a2 a3 sg) Q) : pw tM d mX7_waitOf 0 (lv_args 0 [.ref 300, .int a1, .int a2, .int a3]) [] sg Q := by
  unfold fX7_waitOf at hF
  obtain ⟨d, rfl⟩ : ∃ e, d = e + 1 := ⟨d - 1, by omega⟩
  have hd : 1 ≤ d := by omega
  show pw _ _ _ _ [(0, .ref 300), (1, .int a1), (2, .int a2), (3, .int a3)] [] _ _
  refine p_iconst (v := 0) (by decide) dX7_waitOf_0 ?_
  refine p_istore (Nat.le_of_ble_eq_true rfl) rfl dX7_waitOf_1 ?_
  refine p_iconst (v := 0) (by decide) dX7_waitOf_3 ?_
  refine p_istore (Nat.le_of_ble_eq_true rfl) rfl dX7_waitOf_4 ?_
  refine p_lv [0, 1, 2, 3, 4, 5] rfl (l_X7_waitOf_6 hd ?_ ?_ 200 _ _ _ _ _ _ hF)
  · intro w5_4 s6 hF
    refine p_iload rfl dX7_waitOf_45 ?_
    exact p_iret rfl dX7_waitOf_47 (ok_r (j := jI) hF)
  · intro s8 hF
    refine p_bipush (v := -9) (by decide) dX7_waitOf_27 ?_
    exact p_iret rfl dX7_waitOf_29 (ok_r (j := jI) hF)
theorem l_X7_heapOf_5 {d : Nat} {Q : Option Value → Hp → Prop} {k38 : Int32 → Hp → Option (Int32 × Hp)} (hk38 : ∀ (z3 : Int32) (s2 : Hp), ok jI (k38 z3 s2) Q → pw tM (d + 1) mX7_heapOf 38 [(3, .int z3)] [] s2 Q) : ∀ (n : Nat) (v1 : Int32) (v2 : Int32) (v3 : Int32) (v4 : Int32) (sg : Hp), ok jI (L_X7_heapOf_5 k38 n v1 v2 v3 v4 sg) Q → pw tM (d + 1) mX7_heapOf 5 [(0, .ref 300), (1, .int v1), (2, .int v2), (3, .int v3), (4, .int v4)] [] sg Q := by
  intro n
  induction n with
  | zero =>
    intro v1 v2 v3 v4 sg hF
    obtain ⟨_, _, h9, _⟩ := hF
    cases h9
  | succ n ih =>
    intro v1 v2 v3 v4 sg hF
    refine p_iload rfl dX7_heapOf_5 ?_
    refine p_bipush (v := 41) (by decide) dX7_heapOf_7 ?_
    refine p_icmp_ge (tgt := 38) dX7_heapOf_9 (by decide) (fun hc => ?_) (fun hc => ?_)
    · have hF := ok_t hc hF
      exact p_lv [3] rfl (hk38 _ _ hF)
    · have hF := ok_f hc hF
      refine p_iload_n rfl dX7_heapOf_12 ?_
      refine p_aload_n rfl dX7_heapOf_13 ?_
      refine p_iload_n rfl dX7_heapOf_14 ?_
      refine p_iload rfl dX7_heapOf_15 ?_
      refine p_callV (c0 := 300) (av := [.int _, .int _]) qV_RX7_108 rfl rfl rfl rfl (Nat.le_of_ble_eq_true rfl) (Nat.le_of_ble_eq_true rfl) dX7_heapOf_17 (tX7_of (ok_b hF)) (fun r0 s2 hF => ?_)
      obtain ⟨r1, rfl, hF⟩ := hF
      refine p_aload_n rfl dX7_heapOf_20 ?_
      refine p_iload_n rfl dX7_heapOf_21 ?_
      refine p_iload rfl dX7_heapOf_22 ?_
      refine p_callV (c0 := 300) (av := [.int _, .int _]) qV_RX7_108 rfl rfl rfl rfl (Nat.le_of_ble_eq_true rfl) (Nat.le_of_ble_eq_true rfl) dX7_heapOf_24 (tX7_of (ok_b hF)) (fun r0 s4 hF => ?_)
      obtain ⟨r3, rfl, hF⟩ := hF
      refine p_isub dX7_heapOf_27 ?_
      refine p_callS (av := [.int _, .int _]) qS_RX7_171 rfl (Nat.le_of_ble_eq_true rfl) (Nat.le_of_ble_eq_true rfl) dX7_heapOf_28 (tX7_greater (ok_b hF)) (fun r0 s6 hF => ?_)
      obtain ⟨r5, rfl, hF⟩ := hF
      refine p_istore_n (Nat.le_of_ble_eq_true rfl) rfl dX7_heapOf_31 ?_
      refine p_iinc (w := 1) (by decide) rfl (Nat.le_of_ble_eq_true rfl) rfl dX7_heapOf_32 ?_
      refine p_goto (tgt := 5) dX7_heapOf_35 (by decide) ?_
      exact p_lv [0, 1, 2, 3, 4] rfl (ih _ _ _ _ _ hF)
theorem tX7_heapOf {d : Nat} (hd : 1 ≤ d) {Q : Option Value → Hp → Prop} {a1 : Int32} {a2 : Int32} {sg : Hp} (hF : ok jI (fX7_heapOf a1 a2 sg) Q) : pw tM d mX7_heapOf 0 (lv_args 0 [.ref 300, .int a1, .int a2]) [] sg Q := by
  unfold fX7_heapOf at hF
  obtain ⟨d, rfl⟩ : ∃ e, d = e + 1 := ⟨d - 1, by omega⟩
  show pw _ _ _ _ [(0, .ref 300), (1, .int a1), (2, .int a2)] [] _ _
  refine p_iconst (v := 0) (by decide) dX7_heapOf_0 ?_
  refine p_istore_n (Nat.le_of_ble_eq_true rfl) rfl dX7_heapOf_1 ?_
  refine p_iconst (v := 0) (by decide) dX7_heapOf_2 ?_
  refine p_istore (Nat.le_of_ble_eq_true rfl) rfl dX7_heapOf_3 ?_
  refine p_lv [0, 1, 2, 3, 4] rfl (l_X7_heapOf_5 ?_ 200 _ _ _ _ _ hF)
  intro w7_3 s8 hF
  refine p_iload_n rfl dX7_heapOf_38 ?_
  exact p_iret rfl dX7_heapOf_39 (ok_r (j := jI) hF)
theorem b_X7_delay_28 {d : Nat} (hd : 2 ≤ d) {Q : Option Value → Hp → Prop}  (vk0 : Int32) (sg : Hp) (hF : ok jI (B_X7_delay_28  vk0 sg) Q) : pw tM (d + 1) mX7_delay 28 [] [.int vk0] sg Q := by
  unfold B_X7_delay_28 at hF
  exact p_iret rfl dX7_delay_28 (ok_r (j := jI) hF)
theorem b_X7_delay_16 {d : Nat} (hd : 2 ≤ d) {Q : Option Value → Hp → Prop}   (sg : Hp) (hF : ok jI (B_X7_delay_16   sg) Q) : pw tM (d + 1) mX7_delay 16 [] [] sg Q := by
  unfold B_X7_delay_16 at hF
  refine p_iconst (v := -1) (by decide) dX7_delay_16 ?_
  refine p_goto (tgt := 28) dX7_delay_17 (by decide) ?_
  exact p_lv [] rfl (b_X7_delay_28 hd  _ _ hF)
theorem tX7_delay {d : Nat} (hd : 3 ≤ d) {Q : Option Value → Hp → Prop} {a1 : Int32} {a2 : Int32} {sg : Hp} (hF : ok jI (fX7_delay a1 a2 sg) Q) : pw tM d mX7_delay 0 (lv_args 0 [.ref 300, .int a1, .int a2]) [] sg Q := by
  unfold fX7_delay at hF
  obtain ⟨d, rfl⟩ : ∃ e, d = e + 1 := ⟨d - 1, by omega⟩
  have hd : 2 ≤ d := by omega
  show pw _ _ _ _ [(0, .ref 300), (1, .int a1), (2, .int a2)] [] _ _
  refine p_aload_n rfl dX7_delay_0 ?_
  refine p_iload_n rfl dX7_delay_1 ?_
  refine p_callV (c0 := 300) (av := [.int _]) qV_RX7_161 rfl rfl rfl rfl (Nat.le_of_ble_eq_true rfl) (Nat.le_of_ble_eq_true rfl) dX7_delay_2 (tX7_noStair (by omega) (ok_b hF)) (fun r0 s2 hF => ?_)
  obtain ⟨r1, rfl, hF⟩ := hF
  refine p_if_ne (tgt := 16) dX7_delay_5 (by decide) (fun hc => ?_) (fun hc => ?_)
  · have hF := ok_f hc hF
    exact p_lv [] rfl (b_X7_delay_16 hd  _ hF)
  · have hF := ok_t hc hF
    refine p_aload_n rfl dX7_delay_8 ?_
    refine p_iload_n rfl dX7_delay_9 ?_
    refine p_callV (c0 := 300) (av := [.int _]) qV_RX7_161 rfl rfl rfl rfl (Nat.le_of_ble_eq_true rfl) (Nat.le_of_ble_eq_true rfl) dX7_delay_10 (tX7_noStair (by omega) (ok_b hF)) (fun r0 s4 hF => ?_)
    obtain ⟨r3, rfl, hF⟩ := hF
    refine p_if_eq (tgt := 20) dX7_delay_13 (by decide) (fun hc => ?_) (fun hc => ?_)
    · have hF := ok_t hc hF
      refine p_aload_n rfl dX7_delay_20 ?_
      refine p_iload_n rfl dX7_delay_21 ?_
      refine p_iload_n rfl dX7_delay_22 ?_
      refine p_bipush (v := 20) (by decide) dX7_delay_23 ?_
      refine p_callV (c0 := 300) (av := [.int _, .int _, .int _]) qV_RX7_182 rfl rfl rfl rfl (Nat.le_of_ble_eq_true rfl) (Nat.le_of_ble_eq_true rfl) dX7_delay_25 (tX7_waitOf (by omega) (ok_b hF)) (fun r0 s6 hF => ?_)
      obtain ⟨r5, rfl, hF⟩ := hF
      exact p_lv [] rfl (b_X7_delay_28 hd  _ _ hF)
    · have hF := ok_f hc hF
      exact p_lv [] rfl (b_X7_delay_16 hd  _ hF)
theorem b_X7_heap_26 {d : Nat} (hd : 1 ≤ d) {Q : Option Value → Hp → Prop}  (vk0 : Int32) (sg : Hp) (hF : ok jI (B_X7_heap_26  vk0 sg) Q) : pw tM (d + 1) mX7_heap 26 [] [.int vk0] sg Q := by
  unfold B_X7_heap_26 at hF
  exact p_iret rfl dX7_heap_26 (ok_r (j := jI) hF)
theorem b_X7_heap_16 {d : Nat} (hd : 1 ≤ d) {Q : Option Value → Hp → Prop}   (sg : Hp) (hF : ok jI (B_X7_heap_16   sg) Q) : pw tM (d + 1) mX7_heap 16 [] [] sg Q := by
  unfold B_X7_heap_16 at hF
  refine p_iconst (v := -1) (by decide) dX7_heap_16 ?_
  refine p_goto (tgt := 26) dX7_heap_17 (by decide) ?_
  exact p_lv [] rfl (b_X7_heap_26 hd  _ _ hF)
theorem tX7_heap {d : Nat} (hd : 2 ≤ d) {Q : Option Value → Hp → Prop} {a1 : Int32} {a2 : Int32} {sg : Hp} (hF : ok jI (fX7_heap a1 a2 sg) Q) : pw tM d mX7_heap 0 (lv_args 0 [.ref 300, .int a1, .int a2]) [] sg Q := by
  unfold fX7_heap at hF
  obtain ⟨d, rfl⟩ : ∃ e, d = e + 1 := ⟨d - 1, by omega⟩
  have hd : 1 ≤ d := by omega
  show pw _ _ _ _ [(0, .ref 300), (1, .int a1), (2, .int a2)] [] _ _
  refine p_aload_n rfl dX7_heap_0 ?_
  refine p_iload_n rfl dX7_heap_1 ?_
  refine p_callV (c0 := 300) (av := [.int _]) qV_RX7_161 rfl rfl rfl rfl (Nat.le_of_ble_eq_true rfl) (Nat.le_of_ble_eq_true rfl) dX7_heap_2 (tX7_noStair (by omega) (ok_b hF)) (fun r0 s2 hF => ?_)
  obtain ⟨r1, rfl, hF⟩ := hF
  refine p_if_ne (tgt := 16) dX7_heap_5 (by decide) (fun hc => ?_) (fun hc => ?_)
  · have hF := ok_f hc hF
    exact p_lv [] rfl (b_X7_heap_16 hd  _ hF)
  · have hF := ok_t hc hF
    refine p_aload_n rfl dX7_heap_8 ?_
    refine p_iload_n rfl dX7_heap_9 ?_
    refine p_callV (c0 := 300) (av := [.int _]) qV_RX7_161 rfl rfl rfl rfl (Nat.le_of_ble_eq_true rfl) (Nat.le_of_ble_eq_true rfl) dX7_heap_10 (tX7_noStair (by omega) (ok_b hF)) (fun r0 s4 hF => ?_)
    obtain ⟨r3, rfl, hF⟩ := hF
    refine p_if_eq (tgt := 20) dX7_heap_13 (by decide) (fun hc => ?_) (fun hc => ?_)
    · have hF := ok_t hc hF
      refine p_aload_n rfl dX7_heap_20 ?_
      refine p_iload_n rfl dX7_heap_21 ?_
      refine p_iload_n rfl dX7_heap_22 ?_
      refine p_callV (c0 := 300) (av := [.int _, .int _]) qV_RX7_185 rfl rfl rfl rfl (Nat.le_of_ble_eq_true rfl) (Nat.le_of_ble_eq_true rfl) dX7_heap_23 (tX7_heapOf (by omega) (ok_b hF)) (fun r0 s6 hF => ?_)
      obtain ⟨r5, rfl, hF⟩ := hF
      exact p_lv [] rfl (b_X7_heap_26 hd  _ _ hF)
    · have hF := ok_f hc hF
      exact p_lv [] rfl (b_X7_heap_16 hd  _ hF)
