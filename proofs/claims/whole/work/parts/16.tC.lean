theorem b_X3_write_37 {d : Nat} {Q : Option Value → Hp → Prop}   (sg : Hp) (hF : ok jI (B_X3_write_37   sg) Q) : pw tC (d + 1) mX3_write 37 [] [] sg Q := by
  unfold B_X3_write_37 at hF
  refine p_bipush (v := -13) (by decide) dX3_write_37 ?_
  exact p_iret rfl dX3_write_39 (ok_r (j := jI) hF)
theorem tX3_write {d : Nat} (hd : 1 ≤ d) {Q : Option Value → Hp → Prop} {a1 : Int32} {a2 : Int32} {a3 : Int32} {sg : Hp} (hF : ok jI (fX3_write a1 a2 a3 sg) Q) : pw tC d mX3_write 0 (lv_args 0 [.ref 4, .int a1, .int a2, .int a3]) [] sg Q := by
  unfold fX3_write at hF
  obtain ⟨d, rfl⟩ : ∃ e, d = e + 1 := ⟨d - 1, by omega⟩
  show pw _ _ _ _ [(0, .ref 4), (1, .int a1), (2, .int a2), (3, .int a3)] [] _ _
  refine p_aload_n rfl dX3_write_0 ?_
  refine p_iload_n rfl dX3_write_1 ?_
  refine p_callV (c0 := 4) (av := [.int _]) qV_RX3_29 rfl rfl rfl rfl (Nat.le_of_ble_eq_true rfl) (Nat.le_of_ble_eq_true rfl) dX3_write_2 (tX3_has (ok_b hF)) (fun r0 s2 hF => ?_)
  obtain ⟨r1, rfl, hF⟩ := hF
  refine p_if_ne (tgt := 10) dX3_write_5 (by decide) (fun hc => ?_) (fun hc => ?_)
  · have hF := ok_f hc hF
    refine p_aload_n rfl dX3_write_10 ?_
    refine p_getR (c1 := 25) qF_RX3_16 rfl rfl dX3_write_11 ?_
    refine p_iload_n rfl dX3_write_14 ?_
    obtain ⟨hg, hF⟩ := ok_g hF
    refine p_iald rfl (inb_in hg) dX3_write_15 ?_
    refine p_iconst (v := -1) (by decide) dX3_write_16 ?_
    refine p_icmp_ne (tgt := 23) dX3_write_17 (by decide) (fun hc => ?_) (fun hc => ?_)
    · have hF := ok_f hc hF
      refine p_iload_n rfl dX3_write_23 ?_
      refine p_if_lt (tgt := 37) dX3_write_24 (by decide) (fun hc => ?_) (fun hc => ?_)
      · have hF := ok_t hc hF
        exact p_lv [] rfl (b_X3_write_37  _ hF)
      · have hF := ok_f hc hF
        refine p_iload_n rfl dX3_write_27 ?_
        refine p_aload_n rfl dX3_write_28 ?_
        refine p_getR (c1 := 25) qF_RX3_16 rfl rfl dX3_write_29 ?_
        refine p_iload_n rfl dX3_write_32 ?_
        obtain ⟨hg, hF⟩ := ok_g hF
        refine p_iald rfl (inb_in hg) dX3_write_33 ?_
        refine p_icmp_lt (tgt := 40) dX3_write_34 (by decide) (fun hc => ?_) (fun hc => ?_)
        · have hF := ok_t hc hF
          refine p_aload_n rfl dX3_write_40 ?_
          refine p_getR (c1 := 24) qF_RX3_11 rfl rfl dX3_write_41 ?_
          refine p_iload_n rfl dX3_write_44 ?_
          obtain ⟨hg, hF⟩ := ok_g hF
          refine p_aald rfl (inb_in hg) dX3_write_45 ?_
          refine p_iload_n rfl dX3_write_46 ?_
          refine p_aload_n rfl dX3_write_47 ?_
          refine p_iload_n rfl dX3_write_48 ?_
          refine p_aload_n rfl dX3_write_49 ?_
          refine p_getR (c1 := 26) qF_RX3_20 rfl rfl dX3_write_50 ?_
          refine p_iload_n rfl dX3_write_53 ?_
          obtain ⟨hg, hF⟩ := ok_g hF
          refine p_iald rfl (inb_in hg) dX3_write_54 ?_
          refine p_callV (c0 := 4) (av := [.int _, .int _]) qV_RX3_36 rfl rfl rfl rfl (Nat.le_of_ble_eq_true rfl) (Nat.le_of_ble_eq_true rfl) dX3_write_55 (tX3_cut (ok_b hF)) (fun r0 s4 hF => ?_)
          obtain ⟨r3, rfl, hF⟩ := hF
          obtain ⟨hg, hF⟩ := ok_g hF
          refine p_iast (isA_in hg) (inb_in hg) dX3_write_58 ?_
          refine p_iconst (v := 1) (by decide) dX3_write_59 ?_
          exact p_iret rfl dX3_write_60 (ok_r (j := jI) hF)
        · have hF := ok_f hc hF
          exact p_lv [] rfl (b_X3_write_37  _ hF)
    · have hF := ok_t hc hF
      refine p_bipush (v := -11) (by decide) dX3_write_20 ?_
      exact p_iret rfl dX3_write_22 (ok_r (j := jI) hF)
  · have hF := ok_t hc hF
    refine p_iconst (v := -1) (by decide) dX3_write_8 ?_
    exact p_iret rfl dX3_write_9 (ok_r (j := jI) hF)
theorem b_X3_whyUntaken_50 {d : Nat} {Q : Option Value → Hp → Prop}  (vk0 : Int32) (sg : Hp) (hF : ok jI (B_X3_whyUntaken_50  vk0 sg) Q) : pw tC (d + 1) mX3_whyUntaken 50 [] [.int vk0] sg Q := by
  unfold B_X3_whyUntaken_50 at hF
  exact p_iret rfl dX3_whyUntaken_50 (ok_r (j := jI) hF)
theorem tX3_whyUntaken {d : Nat} (hd : 1 ≤ d) {Q : Option Value → Hp → Prop} {a1 : Int32} {a2 : Int32} {sg : Hp} (hF : ok jI (fX3_whyUntaken a1 a2 sg) Q) : pw tC d mX3_whyUntaken 0 (lv_args 0 [.ref 4, .int a1, .int a2]) [] sg Q := by
  unfold fX3_whyUntaken at hF
  obtain ⟨d, rfl⟩ : ∃ e, d = e + 1 := ⟨d - 1, by omega⟩
  show pw _ _ _ _ [(0, .ref 4), (1, .int a1), (2, .int a2)] [] _ _
  refine p_aload_n rfl dX3_whyUntaken_0 ?_
  refine p_iload_n rfl dX3_whyUntaken_1 ?_
  refine p_callV (c0 := 4) (av := [.int _]) qV_RX3_29 rfl rfl rfl rfl (Nat.le_of_ble_eq_true rfl) (Nat.le_of_ble_eq_true rfl) dX3_whyUntaken_2 (tX3_has (ok_b hF)) (fun r0 s2 hF => ?_)
  obtain ⟨r1, rfl, hF⟩ := hF
  refine p_if_ne (tgt := 10) dX3_whyUntaken_5 (by decide) (fun hc => ?_) (fun hc => ?_)
  · have hF := ok_f hc hF
    refine p_aload_n rfl dX3_whyUntaken_10 ?_
    refine p_iload_n rfl dX3_whyUntaken_11 ?_
    refine p_callV (c0 := 4) (av := [.int _]) qV_RX3_33 rfl rfl rfl rfl (Nat.le_of_ble_eq_true rfl) (Nat.le_of_ble_eq_true rfl) dX3_whyUntaken_12 (tX3_isLane (ok_b hF)) (fun r0 s4 hF => ?_)
    obtain ⟨r3, rfl, hF⟩ := hF
    refine p_if_ne (tgt := 21) dX3_whyUntaken_15 (by decide) (fun hc => ?_) (fun hc => ?_)
    · have hF := ok_f hc hF
      refine p_aload_n rfl dX3_whyUntaken_21 ?_
      refine p_getR (c1 := 25) qF_RX3_16 rfl rfl dX3_whyUntaken_22 ?_
      refine p_iload_n rfl dX3_whyUntaken_25 ?_
      obtain ⟨hg, hF⟩ := ok_g hF
      refine p_iald rfl (inb_in hg) dX3_whyUntaken_26 ?_
      refine p_iconst (v := -1) (by decide) dX3_whyUntaken_27 ?_
      refine p_icmp_ne (tgt := 34) dX3_whyUntaken_28 (by decide) (fun hc => ?_) (fun hc => ?_)
      · have hF := ok_f hc hF
        refine p_aload_n rfl dX3_whyUntaken_34 ?_
        refine p_getR (c1 := 26) qF_RX3_20 rfl rfl dX3_whyUntaken_35 ?_
        refine p_iload_n rfl dX3_whyUntaken_38 ?_
        obtain ⟨hg, hF⟩ := ok_g hF
        refine p_iald rfl (inb_in hg) dX3_whyUntaken_39 ?_
        refine p_iload_n rfl dX3_whyUntaken_40 ?_
        refine p_icmp_ne (tgt := 48) dX3_whyUntaken_41 (by decide) (fun hc => ?_) (fun hc => ?_)
        · have hF := ok_f hc hF
          refine p_bipush (v := -12) (by decide) dX3_whyUntaken_48 ?_
          exact p_lv [] rfl (b_X3_whyUntaken_50  _ _ hF)
        · have hF := ok_t hc hF
          refine p_iconst (v := 0) (by decide) dX3_whyUntaken_44 ?_
          refine p_goto (tgt := 50) dX3_whyUntaken_45 (by decide) ?_
          exact p_lv [] rfl (b_X3_whyUntaken_50  _ _ hF)
      · have hF := ok_t hc hF
        refine p_bipush (v := -11) (by decide) dX3_whyUntaken_31 ?_
        exact p_iret rfl dX3_whyUntaken_33 (ok_r (j := jI) hF)
    · have hF := ok_t hc hF
      refine p_bipush (v := -2) (by decide) dX3_whyUntaken_18 ?_
      exact p_iret rfl dX3_whyUntaken_20 (ok_r (j := jI) hF)
  · have hF := ok_t hc hF
    refine p_iconst (v := -1) (by decide) dX3_whyUntaken_8 ?_
    exact p_iret rfl dX3_whyUntaken_9 (ok_r (j := jI) hF)
theorem b_X3_whyUnread_36 {d : Nat} (hd : 1 ≤ d) {Q : Option Value → Hp → Prop}  (vk0 : Int32) (sg : Hp) (hF : ok jI (B_X3_whyUnread_36  vk0 sg) Q) : pw tC (d + 1) mX3_whyUnread 36 [] [.int vk0] sg Q := by
  unfold B_X3_whyUnread_36 at hF
  exact p_iret rfl dX3_whyUnread_36 (ok_r (j := jI) hF)
theorem b_X3_whyUnread_30 {d : Nat} (hd : 1 ≤ d) {Q : Option Value → Hp → Prop}   (sg : Hp) (hF : ok jI (B_X3_whyUnread_30   sg) Q) : pw tC (d + 1) mX3_whyUnread 30 [] [] sg Q := by
  unfold B_X3_whyUnread_30 at hF
  refine p_bipush (v := -13) (by decide) dX3_whyUnread_30 ?_
  refine p_goto (tgt := 36) dX3_whyUnread_32 (by decide) ?_
  exact p_lv [] rfl (b_X3_whyUnread_36 hd  _ _ hF)
theorem tX3_whyUnread {d : Nat} (hd : 2 ≤ d) {Q : Option Value → Hp → Prop} {a1 : Int32} {a2 : Int32} {a3 : Int32} {sg : Hp} (hF : ok jI (fX3_whyUnread a1 a2 a3 sg) Q) : pw tC d mX3_whyUnread 0 (lv_args 0 [.ref 4, .int a1, .int a2, .int a3]) [] sg Q := by
  unfold fX3_whyUnread at hF
  obtain ⟨d, rfl⟩ : ∃ e, d = e + 1 := ⟨d - 1, by omega⟩
  have hd : 1 ≤ d := by omega
  show pw _ _ _ _ [(0, .ref 4), (1, .int a1), (2, .int a2), (3, .int a3)] [] _ _
  refine p_aload_n rfl dX3_whyUnread_0 ?_
  refine p_iload_n rfl dX3_whyUnread_1 ?_
  refine p_iload_n rfl dX3_whyUnread_2 ?_
  refine p_callV (c0 := 4) (av := [.int _, .int _]) qV_RX3_40 rfl rfl rfl rfl (Nat.le_of_ble_eq_true rfl) (Nat.le_of_ble_eq_true rfl) dX3_whyUnread_3 (tX3_whyUntaken (by omega) (ok_b hF)) (fun r0 s2 hF => ?_)
  obtain ⟨r1, rfl, hF⟩ := hF
  refine p_istore (Nat.le_of_ble_eq_true rfl) rfl dX3_whyUnread_6 ?_
  refine p_iload rfl dX3_whyUnread_8 ?_
  refine p_if_eq (tgt := 16) dX3_whyUnread_10 (by decide) (fun hc => ?_) (fun hc => ?_)
  · have hF := ok_t hc hF
    refine p_iload_n rfl dX3_whyUnread_16 ?_
    refine p_if_lt (tgt := 30) dX3_whyUnread_17 (by decide) (fun hc => ?_) (fun hc => ?_)
    · have hF := ok_t hc hF
      exact p_lv [] rfl (b_X3_whyUnread_30 hd  _ hF)
    · have hF := ok_f hc hF
      refine p_iload_n rfl dX3_whyUnread_20 ?_
      refine p_aload_n rfl dX3_whyUnread_21 ?_
      refine p_getR (c1 := 25) qF_RX3_16 rfl rfl dX3_whyUnread_22 ?_
      refine p_iload_n rfl dX3_whyUnread_25 ?_
      obtain ⟨hg, hF⟩ := ok_g hF
      refine p_iald rfl (inb_in hg) dX3_whyUnread_26 ?_
      refine p_icmp_lt (tgt := 35) dX3_whyUnread_27 (by decide) (fun hc => ?_) (fun hc => ?_)
      · have hF := ok_t hc hF
        refine p_iconst (v := 0) (by decide) dX3_whyUnread_35 ?_
        exact p_lv [] rfl (b_X3_whyUnread_36 hd  _ _ hF)
      · have hF := ok_f hc hF
        exact p_lv [] rfl (b_X3_whyUnread_30 hd  _ hF)
  · have hF := ok_f hc hF
    refine p_iload rfl dX3_whyUnread_13 ?_
    exact p_iret rfl dX3_whyUnread_15 (ok_r (j := jI) hF)
theorem b_X3_isBeyond_35 {d : Nat} {Q : Option Value → Hp → Prop}  (vk0 : Int32) (sg : Hp) (hF : ok jI (B_X3_isBeyond_35  vk0 sg) Q) : pw tC d mX3_isBeyond 35 [] [.int vk0] sg Q := by
  unfold B_X3_isBeyond_35 at hF
  obtain ⟨hg, hF⟩ := ok_g hF
  exact p_zret rfl (b01_n hg).1 dX3_isBeyond_35 (ok_r (j := jI) hF)
theorem b_X3_isBeyond_30 {d : Nat} {Q : Option Value → Hp → Prop}   (sg : Hp) (hF : ok jI (B_X3_isBeyond_30   sg) Q) : pw tC d mX3_isBeyond 30 [] [] sg Q := by
  unfold B_X3_isBeyond_30 at hF
  refine p_iconst (v := 1) (by decide) dX3_isBeyond_30 ?_
  refine p_goto (tgt := 35) dX3_isBeyond_31 (by decide) ?_
  exact p_lv [] rfl (b_X3_isBeyond_35  _ _ hF)
theorem tX3_isBeyond {d : Nat} {Q : Option Value → Hp → Prop} {a1 : Int32} {a2 : Int32} {a3 : Int32} {sg : Hp} (hF : ok jI (fX3_isBeyond a1 a2 a3 sg) Q) : pw tC d mX3_isBeyond 0 (lv_args 0 [.ref 4, .int a1, .int a2, .int a3]) [] sg Q := by
  unfold fX3_isBeyond at hF
  show pw _ _ _ _ [(0, .ref 4), (1, .int a1), (2, .int a2), (3, .int a3)] [] _ _
  refine p_iload_n rfl dX3_isBeyond_0 ?_
  refine p_if_lt (tgt := 30) dX3_isBeyond_1 (by decide) (fun hc => ?_) (fun hc => ?_)
  · have hF := ok_t hc hF
    exact p_lv [] rfl (b_X3_isBeyond_30  _ hF)
  · have hF := ok_f hc hF
    refine p_iload_n rfl dX3_isBeyond_4 ?_
    refine p_if_lt (tgt := 30) dX3_isBeyond_5 (by decide) (fun hc => ?_) (fun hc => ?_)
    · have hF := ok_t hc hF
      exact p_lv [] rfl (b_X3_isBeyond_30  _ hF)
    · have hF := ok_f hc hF
      refine p_iload_n rfl dX3_isBeyond_8 ?_
      refine p_aload_n rfl dX3_isBeyond_9 ?_
      refine p_getR (c1 := 25) qF_RX3_16 rfl rfl dX3_isBeyond_10 ?_
      refine p_iload_n rfl dX3_isBeyond_13 ?_
      obtain ⟨hg, hF⟩ := ok_g hF
      refine p_iald rfl (inb_in hg) dX3_isBeyond_14 ?_
      refine p_icmp_gt (tgt := 30) dX3_isBeyond_15 (by decide) (fun hc => ?_) (fun hc => ?_)
      · have hF := ok_t hc hF
        exact p_lv [] rfl (b_X3_isBeyond_30  _ hF)
      · have hF := ok_f hc hF
        refine p_iload_n rfl dX3_isBeyond_18 ?_
        refine p_aload_n rfl dX3_isBeyond_19 ?_
        refine p_getR (c1 := 25) qF_RX3_16 rfl rfl dX3_isBeyond_20 ?_
        refine p_iload_n rfl dX3_isBeyond_23 ?_
        obtain ⟨hg, hF⟩ := ok_g hF
        refine p_iald rfl (inb_in hg) dX3_isBeyond_24 ?_
        refine p_iload_n rfl dX3_isBeyond_25 ?_
        refine p_isub dX3_isBeyond_26 ?_
        refine p_icmp_le (tgt := 34) dX3_isBeyond_27 (by decide) (fun hc => ?_) (fun hc => ?_)
        · have hF := ok_t hc hF
          refine p_iconst (v := 0) (by decide) dX3_isBeyond_34 ?_
          exact p_lv [] rfl (b_X3_isBeyond_35  _ _ hF)
        · have hF := ok_f hc hF
          exact p_lv [] rfl (b_X3_isBeyond_30  _ hF)
theorem tX3_take {d : Nat} (hd : 2 ≤ d) {Q : Option Value → Hp → Prop} {a1 : Int32} {a2 : Int32} {a3 : Int32} {a4 : Int32} {a5 : Nat} {sg : Hp} (hF : ok jI (fX3_take a1 a2 a3 a4 a5 sg) Q) : pw tC d mX3_take 0 (lv_args 0 [.ref 4, .int a1, .int a2, .int a3, .int a4, .ref a5]) [] sg Q := by
  unfold fX3_take at hF
  obtain ⟨d, rfl⟩ : ∃ e, d = e + 1 := ⟨d - 1, by omega⟩
  have hd : 1 ≤ d := by omega
  show pw _ _ _ _ [(0, .ref 4), (1, .int a1), (2, .int a2), (3, .int a3), (4, .int a4), (5, .ref a5)] [] _ _
  refine p_aload_n rfl dX3_take_0 ?_
  refine p_iload_n rfl dX3_take_1 ?_
  refine p_iload_n rfl dX3_take_2 ?_
  refine p_callV (c0 := 4) (av := [.int _, .int _]) qV_RX3_40 rfl rfl rfl rfl (Nat.le_of_ble_eq_true rfl) (Nat.le_of_ble_eq_true rfl) dX3_take_3 (tX3_whyUntaken (by omega) (ok_b hF)) (fun r0 s2 hF => ?_)
  obtain ⟨r1, rfl, hF⟩ := hF
  refine p_istore (Nat.le_of_ble_eq_true rfl) rfl dX3_take_6 ?_
  refine p_iload rfl dX3_take_8 ?_
  refine p_if_eq (tgt := 16) dX3_take_10 (by decide) (fun hc => ?_) (fun hc => ?_)
  · have hF := ok_t hc hF
    refine p_iload rfl dX3_take_16 ?_
    refine p_if_ge (tgt := 24) dX3_take_18 (by decide) (fun hc => ?_) (fun hc => ?_)
    · have hF := ok_t hc hF
      refine p_aload_n rfl dX3_take_24 ?_
      refine p_iload_n rfl dX3_take_25 ?_
      refine p_iload_n rfl dX3_take_26 ?_
      refine p_iload rfl dX3_take_27 ?_
      refine p_callV (c0 := 4) (av := [.int _, .int _, .int _]) qV_RX3_43 rfl rfl rfl rfl (Nat.le_of_ble_eq_true rfl) (Nat.le_of_ble_eq_true rfl) dX3_take_29 (tX3_isBeyond (ok_b hF)) (fun r0 s4 hF => ?_)
      obtain ⟨r3, rfl, hF⟩ := hF
      refine p_if_eq (tgt := 38) dX3_take_32 (by decide) (fun hc => ?_) (fun hc => ?_)
      · have hF := ok_t hc hF
        refine p_aload_n rfl dX3_take_38 ?_
        refine p_getR (c1 := 24) qF_RX3_11 rfl rfl dX3_take_39 ?_
        refine p_iload_n rfl dX3_take_42 ?_
        obtain ⟨hg, hF⟩ := ok_g hF
        refine p_aald rfl (inb_in hg) dX3_take_43 ?_
        refine p_iload_n rfl dX3_take_44 ?_
        refine p_aload rfl dX3_take_45 ?_
        refine p_iconst (v := 0) (by decide) dX3_take_47 ?_
        refine p_iload rfl dX3_take_48 ?_
        obtain ⟨hg, hF⟩ := ok_g hF
        refine p_copy wd_298 wd_300 wd_299 wd_75 (Nat.le_of_ble_eq_true rfl) hg dX3_take_50 ?_
        refine p_iconst (v := 0) (by decide) dX3_take_53 ?_
        exact p_iret rfl dX3_take_54 (ok_r (j := jI) hF)
      · have hF := ok_f hc hF
        refine p_bipush (v := -13) (by decide) dX3_take_35 ?_
        exact p_iret rfl dX3_take_37 (ok_r (j := jI) hF)
    · have hF := ok_f hc hF
      refine p_bipush (v := -14) (by decide) dX3_take_21 ?_
      exact p_iret rfl dX3_take_23 (ok_r (j := jI) hF)
  · have hF := ok_f hc hF
    refine p_iload rfl dX3_take_13 ?_
    exact p_iret rfl dX3_take_15 (ok_r (j := jI) hF)
theorem b_X3_bring_16 {d : Nat} {Q : Option Value → Hp → Prop}   (sg : Hp) (hF : ok jI (B_X3_bring_16   sg) Q) : pw tC (d + 1) mX3_bring 16 [] [] sg Q := by
  unfold B_X3_bring_16 at hF
  refine p_iconst (v := -1) (by decide) dX3_bring_16 ?_
  exact p_iret rfl dX3_bring_17 (ok_r (j := jI) hF)
theorem b_X3_bring_38 {d : Nat} {Q : Option Value → Hp → Prop}   (sg : Hp) (hF : ok jI (B_X3_bring_38   sg) Q) : pw tC (d + 1) mX3_bring 38 [] [] sg Q := by
  unfold B_X3_bring_38 at hF
  refine p_bipush (v := -11) (by decide) dX3_bring_38 ?_
  exact p_iret rfl dX3_bring_40 (ok_r (j := jI) hF)
theorem b_X3_bring_82 {d : Nat} {Q : Option Value → Hp → Prop}   (sg : Hp) (hF : ok jI (B_X3_bring_82   sg) Q) : pw tC (d + 1) mX3_bring 82 [] [] sg Q := by
  unfold B_X3_bring_82 at hF
  refine p_bipush (v := -13) (by decide) dX3_bring_82 ?_
  exact p_iret rfl dX3_bring_84 (ok_r (j := jI) hF)
theorem tX3_bring {d : Nat} (hd : 1 ≤ d) {Q : Option Value → Hp → Prop} {a1 : Int32} {a2 : Int32} {a3 : Int32} {a4 : Int32} {a5 : Int32} {sg : Hp} (hF : ok jI (fX3_bring a1 a2 a3 a4 a5 sg) Q) : pw tC d mX3_bring 0 (lv_args 0 [.ref 4, .int a1, .int a2, .int a3, .int a4, .int a5]) [] sg Q := by
  unfold fX3_bring at hF
  obtain ⟨d, rfl⟩ : ∃ e, d = e + 1 := ⟨d - 1, by omega⟩
  show pw _ _ _ _ [(0, .ref 4), (1, .int a1), (2, .int a2), (3, .int a3), (4, .int a4), (5, .int a5)] [] _ _
  refine p_aload_n rfl dX3_bring_0 ?_
  refine p_iload_n rfl dX3_bring_1 ?_
  refine p_callV (c0 := 4) (av := [.int _]) qV_RX3_29 rfl rfl rfl rfl (Nat.le_of_ble_eq_true rfl) (Nat.le_of_ble_eq_true rfl) dX3_bring_2 (tX3_has (ok_b hF)) (fun r0 s2 hF => ?_)
  obtain ⟨r1, rfl, hF⟩ := hF
  refine p_if_eq (tgt := 16) dX3_bring_5 (by decide) (fun hc => ?_) (fun hc => ?_)
  · have hF := ok_t hc hF
    exact p_lv [] rfl (b_X3_bring_16  _ hF)
  · have hF := ok_f hc hF
    refine p_aload_n rfl dX3_bring_8 ?_
    refine p_iload_n rfl dX3_bring_9 ?_
    refine p_callV (c0 := 4) (av := [.int _]) qV_RX3_29 rfl rfl rfl rfl (Nat.le_of_ble_eq_true rfl) (Nat.le_of_ble_eq_true rfl) dX3_bring_10 (tX3_has (ok_b hF)) (fun r0 s4 hF => ?_)
    obtain ⟨r3, rfl, hF⟩ := hF
    refine p_if_ne (tgt := 18) dX3_bring_13 (by decide) (fun hc => ?_) (fun hc => ?_)
    · have hF := ok_f hc hF
      refine p_aload_n rfl dX3_bring_18 ?_
      refine p_getR (c1 := 25) qF_RX3_16 rfl rfl dX3_bring_19 ?_
      refine p_iload_n rfl dX3_bring_22 ?_
      obtain ⟨hg, hF⟩ := ok_g hF
      refine p_iald rfl (inb_in hg) dX3_bring_23 ?_
      refine p_iconst (v := -1) (by decide) dX3_bring_24 ?_
      refine p_icmp_eq (tgt := 38) dX3_bring_25 (by decide) (fun hc => ?_) (fun hc => ?_)
      · have hF := ok_t hc hF
        exact p_lv [] rfl (b_X3_bring_38  _ hF)
      · have hF := ok_f hc hF
        refine p_aload_n rfl dX3_bring_28 ?_
        refine p_getR (c1 := 25) qF_RX3_16 rfl rfl dX3_bring_29 ?_
        refine p_iload_n rfl dX3_bring_32 ?_
        obtain ⟨hg, hF⟩ := ok_g hF
        refine p_iald rfl (inb_in hg) dX3_bring_33 ?_
        refine p_iconst (v := -1) (by decide) dX3_bring_34 ?_
        refine p_icmp_ne (tgt := 41) dX3_bring_35 (by decide) (fun hc => ?_) (fun hc => ?_)
        · have hF := ok_f hc hF
          refine p_aload_n rfl dX3_bring_41 ?_
          refine p_getR (c1 := 26) qF_RX3_20 rfl rfl dX3_bring_42 ?_
          refine p_iload_n rfl dX3_bring_45 ?_
          obtain ⟨hg, hF⟩ := ok_g hF
          refine p_iald rfl (inb_in hg) dX3_bring_46 ?_
          refine p_aload_n rfl dX3_bring_47 ?_
          refine p_getR (c1 := 26) qF_RX3_20 rfl rfl dX3_bring_48 ?_
          refine p_iload_n rfl dX3_bring_51 ?_
          obtain ⟨hg, hF⟩ := ok_g hF
          refine p_iald rfl (inb_in hg) dX3_bring_52 ?_
          refine p_icmp_eq (tgt := 59) dX3_bring_53 (by decide) (fun hc => ?_) (fun hc => ?_)
          · have hF := ok_t hc hF
            refine p_aload_n rfl dX3_bring_59 ?_
            refine p_iload_n rfl dX3_bring_60 ?_
            refine p_iload_n rfl dX3_bring_61 ?_
            refine p_iload rfl dX3_bring_62 ?_
            refine p_callV (c0 := 4) (av := [.int _, .int _, .int _]) qV_RX3_43 rfl rfl rfl rfl (Nat.le_of_ble_eq_true rfl) (Nat.le_of_ble_eq_true rfl) dX3_bring_64 (tX3_isBeyond (ok_b hF)) (fun r0 s6 hF => ?_)
            obtain ⟨r5, rfl, hF⟩ := hF
            refine p_if_ne (tgt := 82) dX3_bring_67 (by decide) (fun hc => ?_) (fun hc => ?_)
            · have hF := ok_f hc hF
              exact p_lv [] rfl (b_X3_bring_82  _ hF)
            · have hF := ok_t hc hF
              refine p_aload_n rfl dX3_bring_70 ?_
              refine p_iload_n rfl dX3_bring_71 ?_
              refine p_iload rfl dX3_bring_72 ?_
              refine p_iload rfl dX3_bring_74 ?_
              refine p_callV (c0 := 4) (av := [.int _, .int _, .int _]) qV_RX3_43 rfl rfl rfl rfl (Nat.le_of_ble_eq_true rfl) (Nat.le_of_ble_eq_true rfl) dX3_bring_76 (tX3_isBeyond (ok_b hF)) (fun r0 s8 hF => ?_)
              obtain ⟨r7, rfl, hF⟩ := hF
              refine p_if_eq (tgt := 85) dX3_bring_79 (by decide) (fun hc => ?_) (fun hc => ?_)
              · have hF := ok_t hc hF
                refine p_aload_n rfl dX3_bring_85 ?_
                refine p_getR (c1 := 24) qF_RX3_11 rfl rfl dX3_bring_86 ?_
                refine p_iload_n rfl dX3_bring_89 ?_
                obtain ⟨hg, hF⟩ := ok_g hF
                refine p_aald rfl (inb_in hg) dX3_bring_90 ?_
                refine p_iload_n rfl dX3_bring_91 ?_
                refine p_aload_n rfl dX3_bring_92 ?_
                refine p_getR (c1 := 24) qF_RX3_11 rfl rfl dX3_bring_93 ?_
                refine p_iload_n rfl dX3_bring_96 ?_
                obtain ⟨hg, hF⟩ := ok_g hF
                refine p_aald rfl (inb_in hg) dX3_bring_97 ?_
                refine p_iload rfl dX3_bring_98 ?_
                refine p_iload rfl dX3_bring_100 ?_
                obtain ⟨hg, hF⟩ := ok_g hF
                refine p_copy wd_298 wd_300 wd_299 wd_75 (Nat.le_of_ble_eq_true rfl) hg dX3_bring_102 ?_
                refine p_iload rfl dX3_bring_105 ?_
                exact p_iret rfl dX3_bring_107 (ok_r (j := jI) hF)
              · have hF := ok_f hc hF
                exact p_lv [] rfl (b_X3_bring_82  _ hF)
          · have hF := ok_f hc hF
            refine p_bipush (v := -12) (by decide) dX3_bring_56 ?_
            exact p_iret rfl dX3_bring_58 (ok_r (j := jI) hF)
        · have hF := ok_t hc hF
          exact p_lv [] rfl (b_X3_bring_38  _ hF)
    · have hF := ok_t hc hF
      exact p_lv [] rfl (b_X3_bring_16  _ hF)
theorem b_X4_has_17 {d : Nat} {Q : Option Value → Hp → Prop}  (vk0 : Int32) (sg : Hp) (hF : ok jI (B_X4_has_17  vk0 sg) Q) : pw tC d mX4_has 17 [] [.int vk0] sg Q := by
  unfold B_X4_has_17 at hF
  obtain ⟨hg, hF⟩ := ok_g hF
  exact p_zret rfl (b01_n hg).1 dX4_has_17 (ok_r (j := jI) hF)
theorem b_X4_has_16 {d : Nat} {Q : Option Value → Hp → Prop}   (sg : Hp) (hF : ok jI (B_X4_has_16   sg) Q) : pw tC d mX4_has 16 [] [] sg Q := by
  unfold B_X4_has_16 at hF
  refine p_iconst (v := 0) (by decide) dX4_has_16 ?_
  exact p_lv [] rfl (b_X4_has_17  _ _ hF)
theorem tX4_has {d : Nat} {Q : Option Value → Hp → Prop} {a1 : Int32} {sg : Hp} (hF : ok jI (fX4_has a1 sg) Q) : pw tC d mX4_has 0 (lv_args 0 [.ref 1, .int a1]) [] sg Q := by
  unfold fX4_has at hF
  show pw _ _ _ _ [(0, .ref 1), (1, .int a1)] [] _ _
  refine p_iload_n rfl dX4_has_0 ?_
  refine p_if_lt (tgt := 16) dX4_has_1 (by decide) (fun hc => ?_) (fun hc => ?_)
  · have hF := ok_t hc hF
    exact p_lv [] rfl (b_X4_has_16  _ hF)
  · have hF := ok_f hc hF
    refine p_iload_n rfl dX4_has_4 ?_
    refine p_aload_n rfl dX4_has_5 ?_
    refine p_getI qF_RX4_20 rfl rfl dX4_has_6 ?_
    refine p_icmp_ge (tgt := 16) dX4_has_9 (by decide) (fun hc => ?_) (fun hc => ?_)
    · have hF := ok_t hc hF
      exact p_lv [] rfl (b_X4_has_16  _ hF)
    · have hF := ok_f hc hF
      refine p_iconst (v := 1) (by decide) dX4_has_12 ?_
      refine p_goto (tgt := 17) dX4_has_13 (by decide) ?_
      exact p_lv [] rfl (b_X4_has_17  _ _ hF)
theorem b_X4_isFull_14 {d : Nat} {Q : Option Value → Hp → Prop}  (vk0 : Int32) (sg : Hp) (hF : ok jI (B_X4_isFull_14  vk0 sg) Q) : pw tC d mX4_isFull 14 [] [.int vk0] sg Q := by
  unfold B_X4_isFull_14 at hF
  obtain ⟨hg, hF⟩ := ok_g hF
  exact p_zret rfl (b01_n hg).1 dX4_isFull_14 (ok_r (j := jI) hF)
theorem tX4_isFull {d : Nat} {Q : Option Value → Hp → Prop}  {sg : Hp} (hF : ok jI (fX4_isFull  sg) Q) : pw tC d mX4_isFull 0 (lv_args 0 [.ref 1]) [] sg Q := by
  unfold fX4_isFull at hF
  show pw _ _ _ _ [(0, .ref 1)] [] _ _
  refine p_aload_n rfl dX4_isFull_0 ?_
  refine p_getI qF_RX4_20 rfl rfl dX4_isFull_1 ?_
  refine p_bipush (v := 24) (by decide) dX4_isFull_4 ?_
  refine p_icmp_lt (tgt := 13) dX4_isFull_6 (by decide) (fun hc => ?_) (fun hc => ?_)
  · have hF := ok_t hc hF
    refine p_iconst (v := 0) (by decide) dX4_isFull_13 ?_
    exact p_lv [] rfl (b_X4_isFull_14  _ _ hF)
  · have hF := ok_f hc hF
    refine p_iconst (v := 1) (by decide) dX4_isFull_9 ?_
    refine p_goto (tgt := 14) dX4_isFull_10 (by decide) ?_
    exact p_lv [] rfl (b_X4_isFull_14  _ _ hF)
theorem tX4_row {d : Nat} {Q : Option Value → Hp → Prop} {a1 : Int32} {sg : Hp} (hF : ok jA (fX4_row a1 sg) Q) : pw tC d mX4_row 0 (lv_args 0 [.ref 1, .int a1]) [] sg Q := by
  unfold fX4_row at hF
  show pw _ _ _ _ [(0, .ref 1), (1, .int a1)] [] _ _
  refine p_aload_n rfl dX4_row_0 ?_
  refine p_getR (c1 := 8) qF_RX4_11 rfl rfl dX4_row_1 ?_
  refine p_iload_n rfl dX4_row_4 ?_
  obtain ⟨hg, hF⟩ := ok_g hF
  refine p_aald rfl (inb_in hg) dX4_row_5 ?_
  exact p_aret rfl dX4_row_6 (ok_r (j := jA) hF)
theorem tX4_nextRow {d : Nat} {Q : Option Value → Hp → Prop}  {sg : Hp} (hF : ok jA (fX4_nextRow  sg) Q) : pw tC d mX4_nextRow 0 (lv_args 0 [.ref 1]) [] sg Q := by
  unfold fX4_nextRow at hF
  show pw _ _ _ _ [(0, .ref 1)] [] _ _
  refine p_aload_n rfl dX4_nextRow_0 ?_
  refine p_getR (c1 := 8) qF_RX4_11 rfl rfl dX4_nextRow_1 ?_
  refine p_aload_n rfl dX4_nextRow_4 ?_
  refine p_getI qF_RX4_20 rfl rfl dX4_nextRow_5 ?_
  obtain ⟨hg, hF⟩ := ok_g hF
  refine p_aald rfl (inb_in hg) dX4_nextRow_8 ?_
  exact p_aret rfl dX4_nextRow_9 (ok_r (j := jA) hF)
theorem tX4_keepNext {d : Nat} {Q : Option Value → Hp → Prop} {a1 : Int32} {sg : Hp} (hF : ok jI (fX4_keepNext a1 sg) Q) : pw tC d mX4_keepNext 0 (lv_args 0 [.ref 1, .int a1]) [] sg Q := by
  unfold fX4_keepNext at hF
  show pw _ _ _ _ [(0, .ref 1), (1, .int a1)] [] _ _
  refine p_aload_n rfl dX4_keepNext_0 ?_
  refine p_getR (c1 := 9) qF_RX4_16 rfl rfl dX4_keepNext_1 ?_
  refine p_aload_n rfl dX4_keepNext_4 ?_
  refine p_getI qF_RX4_20 rfl rfl dX4_keepNext_5 ?_
  refine p_iload_n rfl dX4_keepNext_8 ?_
  obtain ⟨hg, hF⟩ := ok_g hF
  refine p_iast rfl (inb_in hg) dX4_keepNext_9 ?_
  refine p_aload_n rfl dX4_keepNext_10 ?_
  refine p_dup rfl dX4_keepNext_11 ?_
  refine p_getI qF_RX4_20 rfl rfl dX4_keepNext_12 ?_
  refine p_iconst (v := 1) (by decide) dX4_keepNext_15 ?_
  refine p_iadd dX4_keepNext_16 ?_
  refine p_put qF_RX4_20 qP_3_2 rfl rfl rfl rfl dX4_keepNext_17 ?_
  refine p_aload_n rfl dX4_keepNext_20 ?_
  refine p_getI qF_RX4_20 rfl rfl dX4_keepNext_21 ?_
  refine p_iconst (v := 1) (by decide) dX4_keepNext_24 ?_
  refine p_isub dX4_keepNext_25 ?_
  exact p_iret rfl dX4_keepNext_26 (ok_r (j := jI) hF)
theorem b_X5_codeHere_24 {d : Nat} {Q : Option Value → Hp → Prop}  (vk0 : Int32) (sg : Hp) (hF : ok jI (B_X5_codeHere_24  vk0 sg) Q) : pw tC d mX5_codeHere 24 [] [.int vk0] sg Q := by
  unfold B_X5_codeHere_24 at hF
  exact p_iret rfl dX5_codeHere_24 (ok_r (j := jI) hF)
theorem tX5_codeHere {d : Nat} {Q : Option Value → Hp → Prop}  {sg : Hp} (hF : ok jI (fX5_codeHere  sg) Q) : pw tC d mX5_codeHere 0 (lv_args 0 [.ref 5]) [] sg Q := by
  unfold fX5_codeHere at hF
  show pw _ _ _ _ [(0, .ref 5)] [] _ _
  refine p_aload_n rfl dX5_codeHere_0 ?_
  refine p_getI qF_RX5_28 rfl rfl dX5_codeHere_1 ?_
  refine p_aload_n rfl dX5_codeHere_4 ?_
  refine p_getI qF_RX5_25 rfl rfl dX5_codeHere_5 ?_
  refine p_icmp_ge (tgt := 23) dX5_codeHere_8 (by decide) (fun hc => ?_) (fun hc => ?_)
  · have hF := ok_t hc hF
    refine p_iconst (v := 0) (by decide) dX5_codeHere_23 ?_
    exact p_lv [] rfl (b_X5_codeHere_24  _ _ hF)
  · have hF := ok_f hc hF
    refine p_aload_n rfl dX5_codeHere_11 ?_
    refine p_getR (c1 := 27) qF_RX5_9 rfl rfl dX5_codeHere_12 ?_
    refine p_aload_n rfl dX5_codeHere_15 ?_
    refine p_getI qF_RX5_28 rfl rfl dX5_codeHere_16 ?_
    obtain ⟨hg, hF⟩ := ok_g hF
    refine p_iald rfl (inb_in hg) dX5_codeHere_19 ?_
    refine p_goto (tgt := 24) dX5_codeHere_20 (by decide) ?_
    exact p_lv [] rfl (b_X5_codeHere_24  _ _ hF)
theorem b_X5_isDigit_17 {d : Nat} {Q : Option Value → Hp → Prop}  (vk0 : Int32) (sg : Hp) (hF : ok jI (B_X5_isDigit_17  vk0 sg) Q) : pw tC d mX5_isDigit 17 [] [.int vk0] sg Q := by
  unfold B_X5_isDigit_17 at hF
  obtain ⟨hg, hF⟩ := ok_g hF
  exact p_zret rfl (b01_n hg).1 dX5_isDigit_17 (ok_r (j := jI) hF)
theorem b_X5_isDigit_16 {d : Nat} {Q : Option Value → Hp → Prop}   (sg : Hp) (hF : ok jI (B_X5_isDigit_16   sg) Q) : pw tC d mX5_isDigit 16 [] [] sg Q := by
  unfold B_X5_isDigit_16 at hF
  refine p_iconst (v := 0) (by decide) dX5_isDigit_16 ?_
  exact p_lv [] rfl (b_X5_isDigit_17  _ _ hF)
theorem tX5_isDigit {d : Nat} {Q : Option Value → Hp → Prop} {a1 : Int32} {sg : Hp} (hF : ok jI (fX5_isDigit a1 sg) Q) : pw tC d mX5_isDigit 0 (lv_args 0 [.int a1]) [] sg Q := by
  unfold fX5_isDigit at hF
  show pw _ _ _ _ [(0, .int a1)] [] _ _
  refine p_iload_n rfl dX5_isDigit_0 ?_
  refine p_bipush (v := 48) (by decide) dX5_isDigit_1 ?_
  refine p_icmp_lt (tgt := 16) dX5_isDigit_3 (by decide) (fun hc => ?_) (fun hc => ?_)
  · have hF := ok_t hc hF
    exact p_lv [] rfl (b_X5_isDigit_16  _ hF)
  · have hF := ok_f hc hF
    refine p_iload_n rfl dX5_isDigit_6 ?_
    refine p_bipush (v := 57) (by decide) dX5_isDigit_7 ?_
    refine p_icmp_gt (tgt := 16) dX5_isDigit_9 (by decide) (fun hc => ?_) (fun hc => ?_)
    · have hF := ok_t hc hF
      exact p_lv [] rfl (b_X5_isDigit_16  _ hF)
    · have hF := ok_f hc hF
      refine p_iconst (v := 1) (by decide) dX5_isDigit_12 ?_
      refine p_goto (tgt := 17) dX5_isDigit_13 (by decide) ?_
      exact p_lv [] rfl (b_X5_isDigit_17  _ _ hF)
theorem l_X5_readNumber_10 {d : Nat} {Q : Option Value → Hp → Prop} {k55 : Int32 → Int32 → Int32 → Hp → Option (Int32 × Hp)} (hk55 : ∀ (z1 : Int32) (z2 : Int32) (z3 : Int32) (s2 : Hp), ok jI (k55 z1 z2 z3 s2) Q → pw tC (d + 1) mX5_readNumber 55 [(0, .ref 5), (1, .int z1), (2, .int z2), (3, .int z3)] [] s2 Q) : ∀ (n : Nat) (v1 : Int32) (v2 : Int32) (v3 : Int32) (v4 : Int32) (sg : Hp), ok jI (L_X5_readNumber_10 k55 n v1 v2 v3 v4 sg) Q → pw tC (d + 1) mX5_readNumber 10 [(0, .ref 5), (1, .int v1), (2, .int v2), (3, .int v3), (4, .int v4)] [] sg Q := by
  intro n
  induction n with
  | zero =>
    intro v1 v2 v3 v4 sg hF
    obtain ⟨_, _, h9, _⟩ := hF
    cases h9
  | succ n ih =>
    intro v1 v2 v3 v4 sg hF
    refine p_iload rfl dX5_readNumber_10 ?_
    refine p_iconst (v := 4) (by decide) dX5_readNumber_12 ?_
    refine p_icmp_ge (tgt := 55) dX5_readNumber_13 (by decide) (fun hc => ?_) (fun hc => ?_)
    · have hF := ok_t hc hF
      exact p_lv [0, 1, 2, 3] rfl (hk55 _ _ _ _ hF)
    · have hF := ok_f hc hF
      refine p_aload_n rfl dX5_readNumber_16 ?_
      refine p_callV (c0 := 5) (av := []) qV_RX5_62 rfl rfl rfl rfl (Nat.le_of_ble_eq_true rfl) (Nat.le_of_ble_eq_true rfl) dX5_readNumber_17 (tX5_codeHere (ok_b hF)) (fun r0 s2 hF => ?_)
      obtain ⟨r1, rfl, hF⟩ := hF
      refine p_callS (av := [.int _]) qS_RX5_87 rfl (Nat.le_of_ble_eq_true rfl) (Nat.le_of_ble_eq_true rfl) dX5_readNumber_20 (tX5_isDigit (ok_b hF)) (fun r0 s4 hF => ?_)
      obtain ⟨r3, rfl, hF⟩ := hF
      refine p_if_eq (tgt := 55) dX5_readNumber_23 (by decide) (fun hc => ?_) (fun hc => ?_)
      · have hF := ok_t hc hF
        exact p_lv [0, 1, 2, 3] rfl (hk55 _ _ _ _ hF)
      · have hF := ok_f hc hF
        refine p_bipush (v := 10) (by decide) dX5_readNumber_26 ?_
        refine p_iload_n rfl dX5_readNumber_28 ?_
        refine p_imul dX5_readNumber_29 ?_
        refine p_aload_n rfl dX5_readNumber_30 ?_
        refine p_callV (c0 := 5) (av := []) qV_RX5_62 rfl rfl rfl rfl (Nat.le_of_ble_eq_true rfl) (Nat.le_of_ble_eq_true rfl) dX5_readNumber_31 (tX5_codeHere (ok_b hF)) (fun r0 s6 hF => ?_)
        obtain ⟨r5, rfl, hF⟩ := hF
        refine p_iadd dX5_readNumber_34 ?_
        refine p_bipush (v := 48) (by decide) dX5_readNumber_35 ?_
        refine p_isub dX5_readNumber_37 ?_
        refine p_istore_n (Nat.le_of_ble_eq_true rfl) rfl dX5_readNumber_38 ?_
        refine p_aload_n rfl dX5_readNumber_39 ?_
        refine p_dup rfl dX5_readNumber_40 ?_
        refine p_getI qF_RX5_28 rfl rfl dX5_readNumber_41 ?_
        refine p_iconst (v := 1) (by decide) dX5_readNumber_44 ?_
        refine p_iadd dX5_readNumber_45 ?_
        refine p_put qF_RX5_28 qP_4_5 rfl rfl rfl rfl dX5_readNumber_46 ?_
        refine p_iinc (w := 1) (by decide) rfl (Nat.le_of_ble_eq_true rfl) rfl dX5_readNumber_49 ?_
        refine p_goto (tgt := 10) dX5_readNumber_52 (by decide) ?_
        exact p_lv [0, 1, 2, 3, 4] rfl (ih _ _ _ _ _ hF)
theorem b_X5_readNumber_73 {d : Nat} {Q : Option Value → Hp → Prop}  (v3 : Int32) (sg : Hp) (hF : ok jI (B_X5_readNumber_73  v3 sg) Q) : pw tC (d + 1) mX5_readNumber 73 [(3, .int v3)] [] sg Q := by
  unfold B_X5_readNumber_73 at hF
  refine p_iload_n rfl dX5_readNumber_73 ?_
  exact p_iret rfl dX5_readNumber_74 (ok_r (j := jI) hF)
theorem b_X5_readNumber_68 {d : Nat} {Q : Option Value → Hp → Prop}  (v2 : Int32) (v3 : Int32) (sg : Hp) (hF : ok jI (B_X5_readNumber_68  v2 v3 sg) Q) : pw tC (d + 1) mX5_readNumber 68 [(0, .ref 5), (2, .int v2), (3, .int v3)] [] sg Q := by
  unfold B_X5_readNumber_68 at hF
  refine p_aload_n rfl dX5_readNumber_68 ?_
  refine p_iload_n rfl dX5_readNumber_69 ?_
  refine p_put qF_RX5_34 qP_4_7 rfl rfl rfl rfl dX5_readNumber_70 ?_
  exact p_lv [3] rfl (b_X5_readNumber_73  _ _ hF)
theorem tX5_readNumber {d : Nat} (hd : 1 ≤ d) {Q : Option Value → Hp → Prop} {a1 : Int32} {sg : Hp} (hF : ok jI (fX5_readNumber a1 sg) Q) : pw tC d mX5_readNumber 0 (lv_args 0 [.ref 5, .int a1]) [] sg Q := by
  unfold fX5_readNumber at hF
  obtain ⟨d, rfl⟩ : ∃ e, d = e + 1 := ⟨d - 1, by omega⟩
  show pw _ _ _ _ [(0, .ref 5), (1, .int a1)] [] _ _
  refine p_aload_n rfl dX5_readNumber_0 ?_
  refine p_getI qF_RX5_28 rfl rfl dX5_readNumber_1 ?_
  refine p_istore_n (Nat.le_of_ble_eq_true rfl) rfl dX5_readNumber_4 ?_
  refine p_iconst (v := 0) (by decide) dX5_readNumber_5 ?_
  refine p_istore_n (Nat.le_of_ble_eq_true rfl) rfl dX5_readNumber_6 ?_
  refine p_iconst (v := 0) (by decide) dX5_readNumber_7 ?_
  refine p_istore (Nat.le_of_ble_eq_true rfl) rfl dX5_readNumber_8 ?_
  refine p_lv [0, 1, 2, 3, 4] rfl (l_X5_readNumber_10 ?_ 200 _ _ _ _ _ hF)
  intro w7_1 w7_2 w7_3 s8 hF
  refine p_aload_n rfl dX5_readNumber_55 ?_
  refine p_getI qF_RX5_28 rfl rfl dX5_readNumber_56 ?_
  refine p_iload_n rfl dX5_readNumber_59 ?_
  refine p_icmp_eq (tgt := 68) dX5_readNumber_60 (by decide) (fun hc => ?_) (fun hc => ?_)
  · have hF := ok_t hc hF
    exact p_lv [0, 2, 3] rfl (b_X5_readNumber_68  _ _ _ hF)
  · have hF := ok_f hc hF
    refine p_iload_n rfl dX5_readNumber_63 ?_
    refine p_iload_n rfl dX5_readNumber_64 ?_
    refine p_icmp_le (tgt := 73) dX5_readNumber_65 (by decide) (fun hc => ?_) (fun hc => ?_)
    · have hF := ok_t hc hF
      exact p_lv [3] rfl (b_X5_readNumber_73  _ _ hF)
    · have hF := ok_f hc hF
      exact p_lv [0, 2, 3] rfl (b_X5_readNumber_68  _ _ _ hF)
theorem tX5_readPace {d : Nat} (hd : 2 ≤ d) {Q : Option Value → Hp → Prop}  {sg : Hp} (hF : ok jI (fX5_readPace  sg) Q) : pw tC d mX5_readPace 0 (lv_args 0 [.ref 5]) [] sg Q := by
  unfold fX5_readPace at hF
  obtain ⟨d, rfl⟩ : ∃ e, d = e + 1 := ⟨d - 1, by omega⟩
  have hd : 1 ≤ d := by omega
  show pw _ _ _ _ [(0, .ref 5)] [] _ _
  refine p_aload_n rfl dX5_readPace_0 ?_
  refine p_getI qF_RX5_34 rfl rfl dX5_readPace_1 ?_
  refine p_iconst (v := -1) (by decide) dX5_readPace_4 ?_
  refine p_icmp_eq (tgt := 10) dX5_readPace_5 (by decide) (fun hc => ?_) (fun hc => ?_)
  · have hF := ok_t hc hF
    refine p_aload_n rfl dX5_readPace_10 ?_
    refine p_callV (c0 := 5) (av := []) qV_RX5_62 rfl rfl rfl rfl (Nat.le_of_ble_eq_true rfl) (Nat.le_of_ble_eq_true rfl) dX5_readPace_11 (tX5_codeHere (ok_b hF)) (fun r0 s2 hF => ?_)
    obtain ⟨r1, rfl, hF⟩ := hF
    refine p_bipush (v := 114) (by decide) dX5_readPace_14 ?_
    refine p_icmp_eq (tgt := 29) dX5_readPace_16 (by decide) (fun hc => ?_) (fun hc => ?_)
    · have hF := ok_t hc hF
      refine p_aload_n rfl dX5_readPace_29 ?_
      refine p_dup rfl dX5_readPace_30 ?_
      refine p_getI qF_RX5_28 rfl rfl dX5_readPace_31 ?_
      refine p_iconst (v := 1) (by decide) dX5_readPace_34 ?_
      refine p_iadd dX5_readPace_35 ?_
      refine p_put qF_RX5_28 qP_4_5 rfl rfl rfl rfl dX5_readPace_36 ?_
      refine p_aload_n rfl dX5_readPace_39 ?_
      refine p_sipush (v := 999) (by decide) dX5_readPace_40 ?_
      refine p_callV (c0 := 5) (av := [.int _]) qV_RX5_66 rfl rfl rfl rfl (Nat.le_of_ble_eq_true rfl) (Nat.le_of_ble_eq_true rfl) dX5_readPace_43 (tX5_readNumber (by omega) (ok_b hF)) (fun r0 s4 hF => ?_)
      obtain ⟨r3, rfl, hF⟩ := hF
      exact p_iret rfl dX5_readPace_46 (ok_r (j := jI) hF)
    · have hF := ok_f hc hF
      refine p_aload_n rfl dX5_readPace_19 ?_
      refine p_aload_n rfl dX5_readPace_20 ?_
      refine p_getI qF_RX5_28 rfl rfl dX5_readPace_21 ?_
      refine p_put qF_RX5_34 qP_4_7 rfl rfl rfl rfl dX5_readPace_24 ?_
      refine p_iconst (v := 0) (by decide) dX5_readPace_27 ?_
      exact p_iret rfl dX5_readPace_28 (ok_r (j := jI) hF)
  · have hF := ok_f hc hF
    refine p_iconst (v := 0) (by decide) dX5_readPace_8 ?_
    exact p_iret rfl dX5_readPace_9 (ok_r (j := jI) hF)
theorem b_X5_readItem_118 {d : Nat} (hd : 2 ≤ d) {Q : Option Value → Hp → Prop}   (sg : Hp) (hF : ok jV (B_X5_readItem_118   sg) Q) : pw tC (d + 1) mX5_readItem 118 [] [] sg Q := by
  unfold B_X5_readItem_118 at hF
  exact p_vret rfl dX5_readItem_118 (ok_r (j := jV) hF)
theorem tX5_readItem {d : Nat} (hd : 3 ≤ d) {Q : Option Value → Hp → Prop}  {sg : Hp} (hF : ok jV (fX5_readItem  sg) Q) : pw tC d mX5_readItem 0 (lv_args 0 [.ref 5]) [] sg Q := by
  unfold fX5_readItem at hF
  obtain ⟨d, rfl⟩ : ∃ e, d = e + 1 := ⟨d - 1, by omega⟩
  have hd : 2 ≤ d := by omega
  show pw _ _ _ _ [(0, .ref 5)] [] _ _
  refine p_aload_n rfl dX5_readItem_0 ?_
  refine p_getI qF_RX5_34 rfl rfl dX5_readItem_1 ?_
  refine p_iconst (v := -1) (by decide) dX5_readItem_4 ?_
  refine p_icmp_eq (tgt := 9) dX5_readItem_5 (by decide) (fun hc => ?_) (fun hc => ?_)
  · have hF := ok_t hc hF
    refine p_aload_n rfl dX5_readItem_9 ?_
    refine p_callV (c0 := 5) (av := []) qV_RX5_62 rfl rfl rfl rfl (Nat.le_of_ble_eq_true rfl) (Nat.le_of_ble_eq_true rfl) dX5_readItem_10 (tX5_codeHere (ok_b hF)) (fun r0 s2 hF => ?_)
    obtain ⟨r1, rfl, hF⟩ := hF
    refine p_istore_n (Nat.le_of_ble_eq_true rfl) rfl dX5_readItem_13 ?_
    refine p_iload_n rfl dX5_readItem_14 ?_
    refine p_bipush (v := 98) (by decide) dX5_readItem_15 ?_
    refine p_icmp_ne (tgt := 58) dX5_readItem_17 (by decide) (fun hc => ?_) (fun hc => ?_)
    · have hF := ok_f hc hF
      refine p_iload_n rfl dX5_readItem_58 ?_
      refine p_bipush (v := 108) (by decide) dX5_readItem_59 ?_
      refine p_icmp_ne (tgt := 101) dX5_readItem_61 (by decide) (fun hc => ?_) (fun hc => ?_)
      · have hF := ok_f hc hF
        refine p_iconst (v := 0) (by decide) dX5_readItem_101 ?_
        refine p_aload_n rfl dX5_readItem_102 ?_
        refine p_callV (c0 := 5) (av := []) qV_RX5_70 rfl rfl rfl rfl (Nat.le_of_ble_eq_true rfl) (Nat.le_of_ble_eq_true rfl) dX5_readItem_103 (tX5_readPace (by omega) (ok_b hF)) (fun r0 s4 hF => ?_)
        obtain ⟨r3, rfl, hF⟩ := hF
        refine p_aload_n rfl dX5_readItem_106 ?_
        refine p_getR (c1 := 28) qF_RX5_15 rfl rfl dX5_readItem_107 ?_
        refine p_callS (av := [.int _, .int _, .ref 28]) qS_RX5_77 rfl (Nat.le_of_ble_eq_true rfl) (Nat.le_of_ble_eq_true rfl) dX5_readItem_110 (tX1_fillLate (ok_b hF)) (fun r0 s6 hF => ?_)
        obtain ⟨r5, rfl, hF⟩ := hF
        refine p_aload_n rfl dX5_readItem_113 ?_
        refine p_iconst (v := 0) (by decide) dX5_readItem_114 ?_
        refine p_put qF_RX5_21 qP_4_3 rfl rfl rfl rfl dX5_readItem_115 ?_
        exact p_lv [] rfl (b_X5_readItem_118 hd  _ hF)
      · have hF := ok_t hc hF
        refine p_aload_n rfl dX5_readItem_64 ?_
        refine p_dup rfl dX5_readItem_65 ?_
        refine p_getI qF_RX5_28 rfl rfl dX5_readItem_66 ?_
        refine p_iconst (v := 1) (by decide) dX5_readItem_69 ?_
        refine p_iadd dX5_readItem_70 ?_
        refine p_put qF_RX5_28 qP_4_5 rfl rfl rfl rfl dX5_readItem_71 ?_
        refine p_aload_n rfl dX5_readItem_74 ?_
        refine p_bipush (v := 40) (by decide) dX5_readItem_75 ?_
        refine p_callV (c0 := 5) (av := [.int _]) qV_RX5_66 rfl rfl rfl rfl (Nat.le_of_ble_eq_true rfl) (Nat.le_of_ble_eq_true rfl) dX5_readItem_77 (tX5_readNumber (by omega) (ok_b hF)) (fun r0 s8 hF => ?_)
        obtain ⟨r7, rfl, hF⟩ := hF
        refine p_istore_n (Nat.le_of_ble_eq_true rfl) rfl dX5_readItem_80 ?_
        refine p_iload_n rfl dX5_readItem_81 ?_
        refine p_aload_n rfl dX5_readItem_82 ?_
        refine p_callV (c0 := 5) (av := []) qV_RX5_70 rfl rfl rfl rfl (Nat.le_of_ble_eq_true rfl) (Nat.le_of_ble_eq_true rfl) dX5_readItem_83 (tX5_readPace (by omega) (ok_b hF)) (fun r0 s10 hF => ?_)
        obtain ⟨r9, rfl, hF⟩ := hF
        refine p_aload_n rfl dX5_readItem_86 ?_
        refine p_getR (c1 := 28) qF_RX5_15 rfl rfl dX5_readItem_87 ?_
        refine p_callS (av := [.int _, .int _, .ref 28]) qS_RX5_77 rfl (Nat.le_of_ble_eq_true rfl) (Nat.le_of_ble_eq_true rfl) dX5_readItem_90 (tX1_fillLate (ok_b hF)) (fun r0 s12 hF => ?_)
        obtain ⟨r11, rfl, hF⟩ := hF
        refine p_aload_n rfl dX5_readItem_93 ?_
        refine p_iconst (v := 2) (by decide) dX5_readItem_94 ?_
        refine p_put qF_RX5_21 qP_4_3 rfl rfl rfl rfl dX5_readItem_95 ?_
        refine p_goto (tgt := 118) dX5_readItem_98 (by decide) ?_
        exact p_lv [] rfl (b_X5_readItem_118 hd  _ hF)
    · have hF := ok_t hc hF
      refine p_aload_n rfl dX5_readItem_20 ?_
      refine p_dup rfl dX5_readItem_21 ?_
      refine p_getI qF_RX5_28 rfl rfl dX5_readItem_22 ?_
      refine p_iconst (v := 1) (by decide) dX5_readItem_25 ?_
      refine p_iadd dX5_readItem_26 ?_
      refine p_put qF_RX5_28 qP_4_5 rfl rfl rfl rfl dX5_readItem_27 ?_
      refine p_aload_n rfl dX5_readItem_30 ?_
      refine p_sipush (v := 9999) (by decide) dX5_readItem_31 ?_
      refine p_callV (c0 := 5) (av := [.int _]) qV_RX5_66 rfl rfl rfl rfl (Nat.le_of_ble_eq_true rfl) (Nat.le_of_ble_eq_true rfl) dX5_readItem_34 (tX5_readNumber (by omega) (ok_b hF)) (fun r0 s14 hF => ?_)
      obtain ⟨r13, rfl, hF⟩ := hF
      refine p_istore_n (Nat.le_of_ble_eq_true rfl) rfl dX5_readItem_37 ?_
      refine p_iload_n rfl dX5_readItem_38 ?_
      refine p_aload_n rfl dX5_readItem_39 ?_
      refine p_callV (c0 := 5) (av := []) qV_RX5_70 rfl rfl rfl rfl (Nat.le_of_ble_eq_true rfl) (Nat.le_of_ble_eq_true rfl) dX5_readItem_40 (tX5_readPace (by omega) (ok_b hF)) (fun r0 s16 hF => ?_)
      obtain ⟨r15, rfl, hF⟩ := hF
      refine p_aload_n rfl dX5_readItem_43 ?_
      refine p_getR (c1 := 28) qF_RX5_15 rfl rfl dX5_readItem_44 ?_
      refine p_callS (av := [.int _, .int _, .ref 28]) qS_RX5_73 rfl (Nat.le_of_ble_eq_true rfl) (Nat.le_of_ble_eq_true rfl) dX5_readItem_47 (tX1_fillBucket (by omega) (ok_b hF)) (fun r0 s18 hF => ?_)
      obtain ⟨r17, rfl, hF⟩ := hF
      refine p_aload_n rfl dX5_readItem_50 ?_
      refine p_iconst (v := 1) (by decide) dX5_readItem_51 ?_
      refine p_put qF_RX5_21 qP_4_3 rfl rfl rfl rfl dX5_readItem_52 ?_
      refine p_goto (tgt := 118) dX5_readItem_55 (by decide) ?_
      exact p_lv [] rfl (b_X5_readItem_118 hd  _ hF)
  · have hF := ok_f hc hF
    exact p_vret rfl dX5_readItem_8 (ok_r (j := jV) hF)
theorem b_X5_goesOn_24 {d : Nat} {Q : Option Value → Hp → Prop}  (vk0 : Int32) (sg : Hp) (hF : ok jI (B_X5_goesOn_24  vk0 sg) Q) : pw tC d mX5_goesOn 24 [] [.int vk0] sg Q := by
  unfold B_X5_goesOn_24 at hF
  obtain ⟨hg, hF⟩ := ok_g hF
  exact p_zret rfl (b01_n hg).1 dX5_goesOn_24 (ok_r (j := jI) hF)
theorem b_X5_goesOn_23 {d : Nat} {Q : Option Value → Hp → Prop}   (sg : Hp) (hF : ok jI (B_X5_goesOn_23   sg) Q) : pw tC d mX5_goesOn 23 [] [] sg Q := by
  unfold B_X5_goesOn_23 at hF
  refine p_iconst (v := 0) (by decide) dX5_goesOn_23 ?_
  exact p_lv [] rfl (b_X5_goesOn_24  _ _ hF)
theorem tX5_goesOn {d : Nat} {Q : Option Value → Hp → Prop}  {sg : Hp} (hF : ok jI (fX5_goesOn  sg) Q) : pw tC d mX5_goesOn 0 (lv_args 0 [.ref 5]) [] sg Q := by
  unfold fX5_goesOn at hF
  show pw _ _ _ _ [(0, .ref 5)] [] _ _
  refine p_aload_n rfl dX5_goesOn_0 ?_
  refine p_getI qF_RX5_34 rfl rfl dX5_goesOn_1 ?_
  refine p_iconst (v := -1) (by decide) dX5_goesOn_4 ?_
  refine p_icmp_ne (tgt := 23) dX5_goesOn_5 (by decide) (fun hc => ?_) (fun hc => ?_)
  · have hF := ok_f hc hF
    exact p_lv [] rfl (b_X5_goesOn_23  _ hF)
  · have hF := ok_t hc hF
    refine p_aload_n rfl dX5_goesOn_8 ?_
    refine p_getI qF_RX5_28 rfl rfl dX5_goesOn_9 ?_
    refine p_aload_n rfl dX5_goesOn_12 ?_
    refine p_getI qF_RX5_25 rfl rfl dX5_goesOn_13 ?_
    refine p_icmp_ge (tgt := 23) dX5_goesOn_16 (by decide) (fun hc => ?_) (fun hc => ?_)
    · have hF := ok_t hc hF
      exact p_lv [] rfl (b_X5_goesOn_23  _ hF)
    · have hF := ok_f hc hF
      refine p_iconst (v := 1) (by decide) dX5_goesOn_19 ?_
      refine p_goto (tgt := 24) dX5_goesOn_20 (by decide) ?_
      exact p_lv [] rfl (b_X5_goesOn_24  _ _ hF)
theorem b_X5_readSign_68 {d : Nat} {Q : Option Value → Hp → Prop}   (sg : Hp) (hF : ok jV (B_X5_readSign_68   sg) Q) : pw tC (d + 1) mX5_readSign 68 [] [] sg Q := by
  unfold B_X5_readSign_68 at hF
  exact p_vret rfl dX5_readSign_68 (ok_r (j := jV) hF)
theorem b_X5_readSign_60 {d : Nat} {Q : Option Value → Hp → Prop}   (sg : Hp) (hF : ok jV (B_X5_readSign_60   sg) Q) : pw tC (d + 1) mX5_readSign 60 [(0, .ref 5)] [] sg Q := by
  unfold B_X5_readSign_60 at hF
  refine p_aload_n rfl dX5_readSign_60 ?_
  refine p_aload_n rfl dX5_readSign_61 ?_
  refine p_getI qF_RX5_28 rfl rfl dX5_readSign_62 ?_
  refine p_put qF_RX5_34 qP_4_7 rfl rfl rfl rfl dX5_readSign_65 ?_
  exact p_lv [] rfl (b_X5_readSign_68  _ hF)
theorem b_X5_readSign_42 {d : Nat} {Q : Option Value → Hp → Prop}  (v1 : Int32) (sg : Hp) (hF : ok jV (B_X5_readSign_42  v1 sg) Q) : pw tC (d + 1) mX5_readSign 42 [(0, .ref 5), (1, .int v1)] [] sg Q := by
  unfold B_X5_readSign_42 at hF
  refine p_aload_n rfl dX5_readSign_42 ?_
  refine p_iload_n rfl dX5_readSign_43 ?_
  refine p_put qF_RX5_31 qP_4_6 rfl rfl rfl rfl dX5_readSign_44 ?_
  refine p_aload_n rfl dX5_readSign_47 ?_
  refine p_dup rfl dX5_readSign_48 ?_
  refine p_getI qF_RX5_28 rfl rfl dX5_readSign_49 ?_
  refine p_iconst (v := 1) (by decide) dX5_readSign_52 ?_
  refine p_iadd dX5_readSign_53 ?_
  refine p_put qF_RX5_28 qP_4_5 rfl rfl rfl rfl dX5_readSign_54 ?_
  refine p_goto (tgt := 68) dX5_readSign_57 (by decide) ?_
  exact p_lv [] rfl (b_X5_readSign_68  _ hF)
theorem b_X5_readSign_22 {d : Nat} {Q : Option Value → Hp → Prop}  (v1 : Int32) (vk0 : Int32) (sg : Hp) (hF : ok jV (B_X5_readSign_22  v1 vk0 sg) Q) : pw tC (d + 1) mX5_readSign 22 [(0, .ref 5), (1, .int v1)] [.int vk0] sg Q := by
  unfold B_X5_readSign_22 at hF
  refine p_istore_n (Nat.le_of_ble_eq_true rfl) rfl dX5_readSign_22 ?_
  refine p_iload_n rfl dX5_readSign_23 ?_
  refine p_if_eq (tgt := 60) dX5_readSign_24 (by decide) (fun hc => ?_) (fun hc => ?_)
  · have hF := ok_t hc hF
    exact p_lv [0] rfl (b_X5_readSign_60  _ hF)
  · have hF := ok_f hc hF
    refine p_aload_n rfl dX5_readSign_27 ?_
    refine p_getI qF_RX5_31 rfl rfl dX5_readSign_28 ?_
    refine p_if_eq (tgt := 42) dX5_readSign_31 (by decide) (fun hc => ?_) (fun hc => ?_)
    · have hF := ok_t hc hF
      exact p_lv [0, 1] rfl (b_X5_readSign_42  _ _ hF)
    · have hF := ok_f hc hF
      refine p_aload_n rfl dX5_readSign_34 ?_
      refine p_getI qF_RX5_31 rfl rfl dX5_readSign_35 ?_
      refine p_iload_n rfl dX5_readSign_38 ?_
      refine p_icmp_ne (tgt := 60) dX5_readSign_39 (by decide) (fun hc => ?_) (fun hc => ?_)
      · have hF := ok_f hc hF
        exact p_lv [0] rfl (b_X5_readSign_60  _ hF)
      · have hF := ok_t hc hF
        exact p_lv [0, 1] rfl (b_X5_readSign_42  _ _ hF)
theorem b_X5_readSign_17 {d : Nat} {Q : Option Value → Hp → Prop}  (v1 : Int32) (sg : Hp) (hF : ok jV (B_X5_readSign_17  v1 sg) Q) : pw tC (d + 1) mX5_readSign 17 [(0, .ref 5), (1, .int v1)] [] sg Q := by
  unfold B_X5_readSign_17 at hF
  refine p_iconst (v := 1) (by decide) dX5_readSign_17 ?_
  refine p_goto (tgt := 22) dX5_readSign_18 (by decide) ?_
  exact p_lv [0, 1] rfl (b_X5_readSign_22  _ _ _ hF)
theorem tX5_readSign {d : Nat} (hd : 1 ≤ d) {Q : Option Value → Hp → Prop}  {sg : Hp} (hF : ok jV (fX5_readSign  sg) Q) : pw tC d mX5_readSign 0 (lv_args 0 [.ref 5]) [] sg Q := by
  unfold fX5_readSign at hF
  obtain ⟨d, rfl⟩ : ∃ e, d = e + 1 := ⟨d - 1, by omega⟩
  show pw _ _ _ _ [(0, .ref 5)] [] _ _
  refine p_aload_n rfl dX5_readSign_0 ?_
  refine p_callV (c0 := 5) (av := []) qV_RX5_62 rfl rfl rfl rfl (Nat.le_of_ble_eq_true rfl) (Nat.le_of_ble_eq_true rfl) dX5_readSign_1 (tX5_codeHere (ok_b hF)) (fun r0 s2 hF => ?_)
  obtain ⟨r1, rfl, hF⟩ := hF
  refine p_istore_n (Nat.le_of_ble_eq_true rfl) rfl dX5_readSign_4 ?_
  refine p_iload_n rfl dX5_readSign_5 ?_
  refine p_bipush (v := 38) (by decide) dX5_readSign_6 ?_
  refine p_icmp_eq (tgt := 17) dX5_readSign_8 (by decide) (fun hc => ?_) (fun hc => ?_)
  · have hF := ok_t hc hF
    exact p_lv [0, 1] rfl (b_X5_readSign_17  _ _ hF)
  · have hF := ok_f hc hF
    refine p_iload_n rfl dX5_readSign_11 ?_
    refine p_bipush (v := 43) (by decide) dX5_readSign_12 ?_
    refine p_icmp_ne (tgt := 21) dX5_readSign_14 (by decide) (fun hc => ?_) (fun hc => ?_)
    · have hF := ok_f hc hF
      refine p_iconst (v := 0) (by decide) dX5_readSign_21 ?_
      exact p_lv [0, 1] rfl (b_X5_readSign_22  _ _ _ hF)
    · have hF := ok_t hc hF
      exact p_lv [0, 1] rfl (b_X5_readSign_17  _ _ hF)
theorem b_X5_joinItem_51 {d : Nat} (hd : 1 ≤ d) {Q : Option Value → Hp → Prop}   (sg : Hp) (hF : ok jV (B_X5_joinItem_51   sg) Q) : pw tC (d + 1) mX5_joinItem 51 [(0, .ref 5)] [] sg Q := by
  unfold B_X5_joinItem_51 at hF
  refine p_aload_n rfl dX5_joinItem_51 ?_
  refine p_iconst (v := 0) (by decide) dX5_joinItem_52 ?_
  refine p_put qF_RX5_21 qP_4_3 rfl rfl rfl rfl dX5_joinItem_53 ?_
  exact p_vret rfl dX5_joinItem_56 (ok_r (j := jV) hF)
theorem tX5_joinItem {d : Nat} (hd : 2 ≤ d) {Q : Option Value → Hp → Prop}  {sg : Hp} (hF : ok jV (fX5_joinItem  sg) Q) : pw tC d mX5_joinItem 0 (lv_args 0 [.ref 5]) [] sg Q := by
  unfold fX5_joinItem at hF
  obtain ⟨d, rfl⟩ : ∃ e, d = e + 1 := ⟨d - 1, by omega⟩
  have hd : 1 ≤ d := by omega
  show pw _ _ _ _ [(0, .ref 5)] [] _ _
  refine p_aload_n rfl dX5_joinItem_0 ?_
  refine p_getI qF_RX5_34 rfl rfl dX5_joinItem_1 ?_
  refine p_iconst (v := -1) (by decide) dX5_joinItem_4 ?_
  refine p_icmp_eq (tgt := 9) dX5_joinItem_5 (by decide) (fun hc => ?_) (fun hc => ?_)
  · have hF := ok_t hc hF
    refine p_aload_n rfl dX5_joinItem_9 ?_
    refine p_getI qF_RX5_31 rfl rfl dX5_joinItem_10 ?_
    refine p_bipush (v := 38) (by decide) dX5_joinItem_13 ?_
    refine p_icmp_ne (tgt := 36) dX5_joinItem_15 (by decide) (fun hc => ?_) (fun hc => ?_)
    · have hF := ok_f hc hF
      refine p_aload_n rfl dX5_joinItem_36 ?_
      refine p_getR (c1 := 29) qF_RX5_18 rfl rfl dX5_joinItem_37 ?_
      refine p_aload_n rfl dX5_joinItem_40 ?_
      refine p_getR (c1 := 28) qF_RX5_15 rfl rfl dX5_joinItem_41 ?_
      refine p_aload_n rfl dX5_joinItem_44 ?_
      refine p_getR (c1 := 29) qF_RX5_18 rfl rfl dX5_joinItem_45 ?_
      refine p_callS (av := [.ref 29, .ref 28, .ref 29]) qS_RX5_84 rfl (Nat.le_of_ble_eq_true rfl) (Nat.le_of_ble_eq_true rfl) dX5_joinItem_48 (tX1_fillSum (by omega) (ok_b hF)) (fun r0 s2 hF => ?_)
      obtain ⟨r1, rfl, hF⟩ := hF
      exact p_lv [0] rfl (b_X5_joinItem_51 hd  _ hF)
    · have hF := ok_t hc hF
      refine p_aload_n rfl dX5_joinItem_18 ?_
      refine p_getR (c1 := 29) qF_RX5_18 rfl rfl dX5_joinItem_19 ?_
      refine p_aload_n rfl dX5_joinItem_22 ?_
      refine p_getR (c1 := 28) qF_RX5_15 rfl rfl dX5_joinItem_23 ?_
      refine p_aload_n rfl dX5_joinItem_26 ?_
      refine p_getR (c1 := 29) qF_RX5_18 rfl rfl dX5_joinItem_27 ?_
      refine p_callS (av := [.ref 29, .ref 28, .ref 29]) qS_RX5_80 rfl (Nat.le_of_ble_eq_true rfl) (Nat.le_of_ble_eq_true rfl) dX5_joinItem_30 (tX1_fillLeast (by omega) (ok_b hF)) (fun r0 s4 hF => ?_)
      obtain ⟨r3, rfl, hF⟩ := hF
      refine p_goto (tgt := 51) dX5_joinItem_33 (by decide) ?_
      exact p_lv [0] rfl (b_X5_joinItem_51 hd  _ hF)
  · have hF := ok_f hc hF
    exact p_vret rfl dX5_joinItem_8 (ok_r (j := jV) hF)
theorem l_X5_read_48 {d : Nat} (hd : 3 ≤ d) {Q : Option Value → Hp → Prop} {k79 : Hp → Option (Int32 × Hp)} (hk79 : ∀ (s2 : Hp), ok jI (k79 s2) Q → pw tC (d + 1) mX5_read 79 [(0, .ref 5)] [] s2 Q) : ∀ (n : Nat) (v3 : Int32) (sg : Hp), ok jI (L_X5_read_48 k79 n v3 sg) Q → pw tC (d + 1) mX5_read 48 [(0, .ref 5), (3, .int v3)] [] sg Q := by
  intro n
  induction n with
  | zero =>
    intro v3 sg hF
    obtain ⟨_, _, h9, _⟩ := hF
    cases h9
  | succ n ih =>
    intro v3 sg hF
    refine p_iload_n rfl dX5_read_48 ?_
    refine p_bipush (v := 6) (by decide) dX5_read_49 ?_
    refine p_icmp_ge (tgt := 79) dX5_read_51 (by decide) (fun hc => ?_) (fun hc => ?_)
    · have hF := ok_t hc hF
      exact p_lv [0] rfl (hk79 _ hF)
    · have hF := ok_f hc hF
      refine p_aload_n rfl dX5_read_54 ?_
      refine p_callV (c0 := 5) (av := []) qV_RX5_52 rfl rfl rfl rfl (Nat.le_of_ble_eq_true rfl) (Nat.le_of_ble_eq_true rfl) dX5_read_55 (tX5_goesOn (ok_b hF)) (fun r0 s6 hF => ?_)
      obtain ⟨r5, rfl, hF⟩ := hF
      refine p_if_eq (tgt := 79) dX5_read_58 (by decide) (fun hc => ?_) (fun hc => ?_)
      · have hF := ok_t hc hF
        exact p_lv [0] rfl (hk79 _ hF)
      · have hF := ok_f hc hF
        refine p_aload_n rfl dX5_read_61 ?_
        refine p_callV (c0 := 5) (av := []) qV_RX5_56 rfl rfl rfl rfl (Nat.le_of_ble_eq_true rfl) (Nat.le_of_ble_eq_true rfl) dX5_read_62 (tX5_readSign (by omega) (ok_b hF)) (fun r0 s8 hF => ?_)
        obtain ⟨r7, rfl, hF⟩ := hF
        refine p_aload_n rfl dX5_read_65 ?_
        refine p_callV (c0 := 5) (av := []) qV_RX5_43 rfl rfl rfl rfl (Nat.le_of_ble_eq_true rfl) (Nat.le_of_ble_eq_true rfl) dX5_read_66 (tX5_readItem (by omega) (ok_b hF)) (fun r0 s10 hF => ?_)
        obtain ⟨r9, rfl, hF⟩ := hF
        refine p_aload_n rfl dX5_read_69 ?_
        refine p_callV (c0 := 5) (av := []) qV_RX5_59 rfl rfl rfl rfl (Nat.le_of_ble_eq_true rfl) (Nat.le_of_ble_eq_true rfl) dX5_read_70 (tX5_joinItem (by omega) (ok_b hF)) (fun r0 s12 hF => ?_)
        obtain ⟨r11, rfl, hF⟩ := hF
        refine p_iinc (w := 1) (by decide) rfl (Nat.le_of_ble_eq_true rfl) rfl dX5_read_73 ?_
        refine p_goto (tgt := 48) dX5_read_76 (by decide) ?_
        exact p_lv [0, 3] rfl (ih _ _ hF)
theorem b_X5_read_94 {d : Nat} (hd : 3 ≤ d) {Q : Option Value → Hp → Prop}   (sg : Hp) (hF : ok jI (B_X5_read_94   sg) Q) : pw tC (d + 1) mX5_read 94 [(0, .ref 5)] [] sg Q := by
  unfold B_X5_read_94 at hF
  refine p_aload_n rfl dX5_read_94 ?_
  refine p_getI qF_RX5_34 rfl rfl dX5_read_95 ?_
  exact p_iret rfl dX5_read_98 (ok_r (j := jI) hF)
theorem tX5_read {d : Nat} (hd : 4 ≤ d) {Q : Option Value → Hp → Prop} {a1 : Nat} {a2 : Int32} {sg : Hp} (hF : ok jI (fX5_read a1 a2 sg) Q) : pw tC d mX5_read 0 (lv_args 0 [.ref 5, .ref a1, .int a2]) [] sg Q := by
  unfold fX5_read at hF
  obtain ⟨d, rfl⟩ : ∃ e, d = e + 1 := ⟨d - 1, by omega⟩
  have hd : 3 ≤ d := by omega
  show pw _ _ _ _ [(0, .ref 5), (1, .ref a1), (2, .int a2)] [] _ _
  refine p_aload_n rfl dX5_read_0 ?_
  refine p_iconst (v := 0) (by decide) dX5_read_1 ?_
  refine p_aload_n rfl dX5_read_2 ?_
  refine p_getR (c1 := 27) qF_RX5_9 rfl rfl dX5_read_3 ?_
  refine p_iconst (v := 0) (by decide) dX5_read_6 ?_
  refine p_iload_n rfl dX5_read_7 ?_
  obtain ⟨hg, hF⟩ := ok_g hF
  refine p_copy wd_357 wd_300 wd_299 wd_75 (Nat.le_of_ble_eq_true rfl) hg dX5_read_8 ?_
  refine p_aload_n rfl dX5_read_11 ?_
  refine p_iload_n rfl dX5_read_12 ?_
  refine p_put qF_RX5_25 qP_4_4 rfl rfl rfl rfl dX5_read_13 ?_
  refine p_aload_n rfl dX5_read_16 ?_
  refine p_iconst (v := 0) (by decide) dX5_read_17 ?_
  refine p_put qF_RX5_28 qP_4_5 rfl rfl rfl rfl dX5_read_18 ?_
  refine p_aload_n rfl dX5_read_21 ?_
  refine p_iconst (v := 0) (by decide) dX5_read_22 ?_
  refine p_put qF_RX5_31 qP_4_6 rfl rfl rfl rfl dX5_read_23 ?_
  refine p_aload_n rfl dX5_read_26 ?_
  refine p_iconst (v := -1) (by decide) dX5_read_27 ?_
  refine p_put qF_RX5_34 qP_4_7 rfl rfl rfl rfl dX5_read_28 ?_
  refine p_aload_n rfl dX5_read_31 ?_
  refine p_callV (c0 := 5) (av := []) qV_RX5_43 rfl rfl rfl rfl (Nat.le_of_ble_eq_true rfl) (Nat.le_of_ble_eq_true rfl) dX5_read_32 (tX5_readItem (by omega) (ok_b hF)) (fun r0 s2 hF => ?_)
  obtain ⟨r1, rfl, hF⟩ := hF
  refine p_aload_n rfl dX5_read_35 ?_
  refine p_getR (c1 := 28) qF_RX5_15 rfl rfl dX5_read_36 ?_
  refine p_aload_n rfl dX5_read_39 ?_
  refine p_getR (c1 := 29) qF_RX5_18 rfl rfl dX5_read_40 ?_
  refine p_callS (av := [.ref 28, .ref 29]) qS_RX5_46 rfl (Nat.le_of_ble_eq_true rfl) (Nat.le_of_ble_eq_true rfl) dX5_read_43 (tX1_fillSame (by omega) (ok_b hF)) (fun r0 s4 hF => ?_)
  obtain ⟨r3, rfl, hF⟩ := hF
  refine p_iconst (v := 1) (by decide) dX5_read_46 ?_
  refine p_istore_n (Nat.le_of_ble_eq_true rfl) rfl dX5_read_47 ?_
  refine p_lv [0, 3] rfl (l_X5_read_48 hd ?_ 200 _ _ hF)
  intro s14 hF
  refine p_aload_n rfl dX5_read_79 ?_
  refine p_callV (c0 := 5) (av := []) qV_RX5_52 rfl rfl rfl rfl (Nat.le_of_ble_eq_true rfl) (Nat.le_of_ble_eq_true rfl) dX5_read_80 (tX5_goesOn (ok_b hF)) (fun r0 s16 hF => ?_)
  obtain ⟨r15, rfl, hF⟩ := hF
  refine p_if_eq (tgt := 94) dX5_read_83 (by decide) (fun hc => ?_) (fun hc => ?_)
  · have hF := ok_t hc hF
    exact p_lv [0] rfl (b_X5_read_94 hd  _ hF)
  · have hF := ok_f hc hF
    refine p_aload_n rfl dX5_read_86 ?_
    refine p_aload_n rfl dX5_read_87 ?_
    refine p_getI qF_RX5_28 rfl rfl dX5_read_88 ?_
    refine p_put qF_RX5_34 qP_4_7 rfl rfl rfl rfl dX5_read_91 ?_
    exact p_lv [0] rfl (b_X5_read_94 hd  _ hF)
theorem b_X6_isUpTo_14 {d : Nat} {Q : Option Value → Hp → Prop}  (vk0 : Int32) (sg : Hp) (hF : ok jI (B_X6_isUpTo_14  vk0 sg) Q) : pw tC d mX6_isUpTo 14 [] [.int vk0] sg Q := by
  unfold B_X6_isUpTo_14 at hF
  obtain ⟨hg, hF⟩ := ok_g hF
  exact p_zret rfl (b01_n hg).1 dX6_isUpTo_14 (ok_r (j := jI) hF)
theorem b_X6_isUpTo_13 {d : Nat} {Q : Option Value → Hp → Prop}   (sg : Hp) (hF : ok jI (B_X6_isUpTo_13   sg) Q) : pw tC d mX6_isUpTo 13 [] [] sg Q := by
  unfold B_X6_isUpTo_13 at hF
  refine p_iconst (v := 0) (by decide) dX6_isUpTo_13 ?_
  exact p_lv [] rfl (b_X6_isUpTo_14  _ _ hF)
theorem tX6_isUpTo {d : Nat} {Q : Option Value → Hp → Prop} {a1 : Int32} {a2 : Int32} {sg : Hp} (hF : ok jI (fX6_isUpTo a1 a2 sg) Q) : pw tC d mX6_isUpTo 0 (lv_args 0 [.int a1, .int a2]) [] sg Q := by
  unfold fX6_isUpTo at hF
  show pw _ _ _ _ [(0, .int a1), (1, .int a2)] [] _ _
  refine p_iload_n rfl dX6_isUpTo_0 ?_
  refine p_if_lt (tgt := 13) dX6_isUpTo_1 (by decide) (fun hc => ?_) (fun hc => ?_)
  · have hF := ok_t hc hF
    exact p_lv [] rfl (b_X6_isUpTo_13  _ hF)
  · have hF := ok_f hc hF
    refine p_iload_n rfl dX6_isUpTo_4 ?_
    refine p_iload_n rfl dX6_isUpTo_5 ?_
    refine p_icmp_gt (tgt := 13) dX6_isUpTo_6 (by decide) (fun hc => ?_) (fun hc => ?_)
    · have hF := ok_t hc hF
      exact p_lv [] rfl (b_X6_isUpTo_13  _ hF)
    · have hF := ok_f hc hF
      refine p_iconst (v := 1) (by decide) dX6_isUpTo_9 ?_
      refine p_goto (tgt := 14) dX6_isUpTo_10 (by decide) ?_
      exact p_lv [] rfl (b_X6_isUpTo_14  _ _ hF)
theorem b_X6_isRowOfSteps_11 {d : Nat} {Q : Option Value → Hp → Prop}   (sg : Hp) (hF : ok jI (B_X6_isRowOfSteps_11   sg) Q) : pw tC (d + 1) mX6_isRowOfSteps 11 [] [] sg Q := by
  unfold B_X6_isRowOfSteps_11 at hF
  refine p_iconst (v := 0) (by decide) dX6_isRowOfSteps_11 ?_
  exact p_zret rfl rfl dX6_isRowOfSteps_12 (ok_r (j := jI) hF)
theorem l_X6_isRowOfSteps_15 {d : Nat} {Q : Option Value → Hp → Prop} {k43 : Hp → Option (Int32 × Hp)} (hk43 : ∀ (s2 : Hp), ok jI (k43 s2) Q → pw tC (d + 1) mX6_isRowOfSteps 43 [] [] s2 Q) {k35 : Hp → Option (Int32 × Hp)} (hk35 : ∀ (s2 : Hp), ok jI (k35 s2) Q → pw tC (d + 1) mX6_isRowOfSteps 35 [] [] s2 Q) : ∀ (n : Nat) (v1 : Int32) (v2 : Int32) (sg : Hp), ok jI (L_X6_isRowOfSteps_15 k43 k35 n v1 v2 sg) Q → pw tC (d + 1) mX6_isRowOfSteps 15 [(0, .ref 0), (1, .int v1), (2, .int v2)] [] sg Q := by
  intro n
  induction n with
  | zero =>
    intro v1 v2 sg hF
    obtain ⟨_, _, h9, _⟩ := hF
    cases h9
  | succ n ih =>
    intro v1 v2 sg hF
    refine p_iload_n rfl dX6_isRowOfSteps_15 ?_
    refine p_iload_n rfl dX6_isRowOfSteps_16 ?_
    refine p_icmp_ge (tgt := 43) dX6_isRowOfSteps_17 (by decide) (fun hc => ?_) (fun hc => ?_)
    · have hF := ok_t hc hF
      exact p_lv [] rfl (hk43 _ hF)
    · have hF := ok_f hc hF
      refine p_aload_n rfl dX6_isRowOfSteps_20 ?_
      refine p_getR (c1 := 6) qF_RX6_46 rfl rfl dX6_isRowOfSteps_21 ?_
      refine p_iload_n rfl dX6_isRowOfSteps_24 ?_
      obtain ⟨hg, hF⟩ := ok_g hF
      refine p_iald rfl (inb_in hg) dX6_isRowOfSteps_25 ?_
      refine p_sipush (v := 999) (by decide) dX6_isRowOfSteps_26 ?_
      refine p_callS (av := [.int _, .int _]) qS_RX6_68 rfl (Nat.le_of_ble_eq_true rfl) (Nat.le_of_ble_eq_true rfl) dX6_isRowOfSteps_29 (tX6_isUpTo (ok_b hF)) (fun r0 s2 hF => ?_)
      obtain ⟨r1, rfl, hF⟩ := hF
      refine p_if_ne (tgt := 37) dX6_isRowOfSteps_32 (by decide) (fun hc => ?_) (fun hc => ?_)
      · have hF := ok_f hc hF
        refine p_iinc (w := 1) (by decide) rfl (Nat.le_of_ble_eq_true rfl) rfl dX6_isRowOfSteps_37 ?_
        refine p_goto (tgt := 15) dX6_isRowOfSteps_40 (by decide) ?_
        exact p_lv [0, 1, 2] rfl (ih _ _ _ hF)
      · have hF := ok_t hc hF
        exact p_lv [] rfl (hk35 _ hF)
theorem tX6_isRowOfSteps {d : Nat} (hd : 1 ≤ d) {Q : Option Value → Hp → Prop} {a1 : Int32} {sg : Hp} (hF : ok jI (fX6_isRowOfSteps a1 sg) Q) : pw tC d mX6_isRowOfSteps 0 (lv_args 0 [.ref 0, .int a1]) [] sg Q := by
  unfold fX6_isRowOfSteps at hF
  obtain ⟨d, rfl⟩ : ∃ e, d = e + 1 := ⟨d - 1, by omega⟩
  show pw _ _ _ _ [(0, .ref 0), (1, .int a1)] [] _ _
  refine p_iload_n rfl dX6_isRowOfSteps_0 ?_
  refine p_iconst (v := 1) (by decide) dX6_isRowOfSteps_1 ?_
  refine p_icmp_lt (tgt := 11) dX6_isRowOfSteps_2 (by decide) (fun hc => ?_) (fun hc => ?_)
  · have hF := ok_t hc hF
    exact p_lv [] rfl (b_X6_isRowOfSteps_11  _ hF)
  · have hF := ok_f hc hF
    refine p_iload_n rfl dX6_isRowOfSteps_5 ?_
    refine p_bipush (v := 40) (by decide) dX6_isRowOfSteps_6 ?_
    refine p_icmp_le (tgt := 13) dX6_isRowOfSteps_8 (by decide) (fun hc => ?_) (fun hc => ?_)
    · have hF := ok_t hc hF
      refine p_iconst (v := 0) (by decide) dX6_isRowOfSteps_13 ?_
      refine p_istore_n (Nat.le_of_ble_eq_true rfl) rfl dX6_isRowOfSteps_14 ?_
      refine p_lv [0, 1, 2] rfl (l_X6_isRowOfSteps_15 ?_ ?_ 200 _ _ _ hF)
      · intro s4 hF
        refine p_iconst (v := 1) (by decide) dX6_isRowOfSteps_43 ?_
        exact p_zret rfl rfl dX6_isRowOfSteps_44 (ok_r (j := jI) hF)
      · intro s6 hF
        refine p_iconst (v := 0) (by decide) dX6_isRowOfSteps_35 ?_
        exact p_zret rfl rfl dX6_isRowOfSteps_36 (ok_r (j := jI) hF)
    · have hF := ok_f hc hF
      exact p_lv [] rfl (b_X6_isRowOfSteps_11  _ hF)
theorem tX6_stepsOf {d : Nat} (hd : 3 ≤ d) {Q : Option Value → Hp → Prop} {a1 : Int32} {a2 : Int32} {a3 : Int32} {a4 : Int32} {sg : Hp} (hF : ok jI (fX6_stepsOf a1 a2 a3 a4 sg) Q) : pw tC d mX6_stepsOf 0 (lv_args 0 [.ref 0, .int a1, .int a2, .int a3, .int a4]) [] sg Q := by
  unfold fX6_stepsOf at hF
  obtain ⟨d, rfl⟩ : ∃ e, d = e + 1 := ⟨d - 1, by omega⟩
  have hd : 2 ≤ d := by omega
  show pw _ _ _ _ [(0, .ref 0), (1, .int a1), (2, .int a2), (3, .int a3), (4, .int a4)] [] _ _
  refine p_aload_n rfl dX6_stepsOf_0 ?_
  refine p_getR (c1 := 4) qF_RX6_35 rfl rfl dX6_stepsOf_1 ?_
  refine p_iload_n rfl dX6_stepsOf_4 ?_
  refine p_iload_n rfl dX6_stepsOf_5 ?_
  refine p_iload_n rfl dX6_stepsOf_6 ?_
  refine p_iload rfl dX6_stepsOf_7 ?_
  refine p_aload_n rfl dX6_stepsOf_9 ?_
  refine p_getR (c1 := 6) qF_RX6_46 rfl rfl dX6_stepsOf_10 ?_
  refine p_callV (c0 := 4) (av := [.int _, .int _, .int _, .int _, .ref 6]) qV_RX6_103 rfl rfl rfl rfl (Nat.le_of_ble_eq_true rfl) (Nat.le_of_ble_eq_true rfl) dX6_stepsOf_13 (tX3_take (by omega) (ok_b hF)) (fun r0 s2 hF => ?_)
  obtain ⟨r1, rfl, hF⟩ := hF
  refine p_istore (Nat.le_of_ble_eq_true rfl) rfl dX6_stepsOf_16 ?_
  refine p_iload rfl dX6_stepsOf_18 ?_
  refine p_if_eq (tgt := 26) dX6_stepsOf_20 (by decide) (fun hc => ?_) (fun hc => ?_)
  · have hF := ok_t hc hF
    refine p_aload_n rfl dX6_stepsOf_26 ?_
    refine p_iload rfl dX6_stepsOf_27 ?_
    refine p_callV (c0 := 0) (av := [.int _]) qV_RX6_107 rfl rfl rfl rfl (Nat.le_of_ble_eq_true rfl) (Nat.le_of_ble_eq_true rfl) dX6_stepsOf_29 (tX6_isRowOfSteps (by omega) (ok_b hF)) (fun r0 s4 hF => ?_)
    obtain ⟨r3, rfl, hF⟩ := hF
    refine p_if_ne (tgt := 38) dX6_stepsOf_32 (by decide) (fun hc => ?_) (fun hc => ?_)
    · have hF := ok_f hc hF
      refine p_aload_n rfl dX6_stepsOf_38 ?_
      refine p_getR (c1 := 1) qF_RX6_12 rfl rfl dX6_stepsOf_39 ?_
      refine p_callV (c0 := 1) (av := []) qV_RX6_72 rfl rfl rfl rfl (Nat.le_of_ble_eq_true rfl) (Nat.le_of_ble_eq_true rfl) dX6_stepsOf_42 (tX4_isFull (ok_b hF)) (fun r0 s6 hF => ?_)
      obtain ⟨r5, rfl, hF⟩ := hF
      refine p_if_eq (tgt := 51) dX6_stepsOf_45 (by decide) (fun hc => ?_) (fun hc => ?_)
      · have hF := ok_t hc hF
        refine p_aload_n rfl dX6_stepsOf_51 ?_
        refine p_getR (c1 := 6) qF_RX6_46 rfl rfl dX6_stepsOf_52 ?_
        refine p_iload rfl dX6_stepsOf_55 ?_
        refine p_aload_n rfl dX6_stepsOf_57 ?_
        refine p_getR (c1 := 1) qF_RX6_12 rfl rfl dX6_stepsOf_58 ?_
        refine p_callV (c0 := 1) (av := []) qV_RX6_76 rfl rfl rfl rfl (Nat.le_of_ble_eq_true rfl) (Nat.le_of_ble_eq_true rfl) dX6_stepsOf_61 (tX4_nextRow (ok_b hF)) (fun r0 s8 hF => ?_)
        obtain ⟨r7, rfl, hF⟩ := hF
        refine p_callS (av := [.ref 6, .int _, .ref _]) qS_RX6_110 rfl (Nat.le_of_ble_eq_true rfl) (Nat.le_of_ble_eq_true rfl) dX6_stepsOf_64 (tX1_fillSteps (by omega) (ok_b hF)) (fun r0 s10 hF => ?_)
        obtain ⟨r9, rfl, hF⟩ := hF
        refine p_aload_n rfl dX6_stepsOf_67 ?_
        refine p_getR (c1 := 1) qF_RX6_12 rfl rfl dX6_stepsOf_68 ?_
        refine p_iconst (v := 0) (by decide) dX6_stepsOf_71 ?_
        refine p_callV (c0 := 1) (av := [.int _]) qV_RX6_86 rfl rfl rfl rfl (Nat.le_of_ble_eq_true rfl) (Nat.le_of_ble_eq_true rfl) dX6_stepsOf_72 (tX4_keepNext (ok_b hF)) (fun r0 s12 hF => ?_)
        obtain ⟨r11, rfl, hF⟩ := hF
        exact p_iret rfl dX6_stepsOf_75 (ok_r (j := jI) hF)
      · have hF := ok_f hc hF
        refine p_bipush (v := -4) (by decide) dX6_stepsOf_48 ?_
        exact p_iret rfl dX6_stepsOf_50 (ok_r (j := jI) hF)
    · have hF := ok_t hc hF
      refine p_bipush (v := -2) (by decide) dX6_stepsOf_35 ?_
      exact p_iret rfl dX6_stepsOf_37 (ok_r (j := jI) hF)
  · have hF := ok_f hc hF
    refine p_iload rfl dX6_stepsOf_23 ?_
    exact p_iret rfl dX6_stepsOf_25 (ok_r (j := jI) hF)
theorem b_X6_ended_21 {d : Nat} {Q : Option Value → Hp → Prop}  (v1 : Int32) (vk0 : Int32) (sg : Hp) (hF : ok jI (B_X6_ended_21  v1 vk0 sg) Q) : pw tC d mX6_ended 21 [(1, .int v1)] [.int vk0, .ref 0] sg Q := by
  unfold B_X6_ended_21 at hF
  refine p_put qF_RX6_57 qP_5_8 rfl rfl rfl rfl dX6_ended_21 ?_
  refine p_iload_n rfl dX6_ended_24 ?_
  exact p_iret rfl dX6_ended_25 (ok_r (j := jI) hF)
theorem b_X6_ended_20 {d : Nat} {Q : Option Value → Hp → Prop}  (v1 : Int32) (sg : Hp) (hF : ok jI (B_X6_ended_20  v1 sg) Q) : pw tC d mX6_ended 20 [(1, .int v1)] [.ref 0] sg Q := by
  unfold B_X6_ended_20 at hF
  refine p_iconst (v := 0) (by decide) dX6_ended_20 ?_
  exact p_lv [1] rfl (b_X6_ended_21  _ _ _ hF)
theorem tX6_ended {d : Nat} {Q : Option Value → Hp → Prop} {a1 : Int32} {sg : Hp} (hF : ok jI (fX6_ended a1 sg) Q) : pw tC d mX6_ended 0 (lv_args 0 [.ref 0, .int a1]) [] sg Q := by
  unfold fX6_ended at hF
  show pw _ _ _ _ [(0, .ref 0), (1, .int a1)] [] _ _
  refine p_aload_n rfl dX6_ended_0 ?_
  refine p_iload_n rfl dX6_ended_1 ?_
  refine p_bipush (v := -11) (by decide) dX6_ended_2 ?_
  refine p_icmp_gt (tgt := 20) dX6_ended_4 (by decide) (fun hc => ?_) (fun hc => ?_)
  · have hF := ok_t hc hF
    exact p_lv [1] rfl (b_X6_ended_20  _ _ hF)
  · have hF := ok_f hc hF
    refine p_iload_n rfl dX6_ended_7 ?_
    refine p_bipush (v := -14) (by decide) dX6_ended_8 ?_
    refine p_icmp_lt (tgt := 20) dX6_ended_10 (by decide) (fun hc => ?_) (fun hc => ?_)
    · have hF := ok_t hc hF
      exact p_lv [1] rfl (b_X6_ended_20  _ _ hF)
    · have hF := ok_f hc hF
      refine p_bipush (v := -10) (by decide) dX6_ended_13 ?_
      refine p_iload_n rfl dX6_ended_15 ?_
      refine p_isub dX6_ended_16 ?_
      refine p_goto (tgt := 21) dX6_ended_17 (by decide) ?_
      exact p_lv [1] rfl (b_X6_ended_21  _ _ _ hF)
theorem tX6_steps {d : Nat} (hd : 4 ≤ d) {Q : Option Value → Hp → Prop} {a1 : Int32} {a2 : Int32} {a3 : Int32} {a4 : Int32} {sg : Hp} (hF : ok jI (fX6_steps a1 a2 a3 a4 sg) Q) : pw tC d mX6_steps 0 (lv_args 0 [.ref 0, .int a1, .int a2, .int a3, .int a4]) [] sg Q := by
  unfold fX6_steps at hF
  obtain ⟨d, rfl⟩ : ∃ e, d = e + 1 := ⟨d - 1, by omega⟩
  have hd : 3 ≤ d := by omega
  show pw _ _ _ _ [(0, .ref 0), (1, .int a1), (2, .int a2), (3, .int a3), (4, .int a4)] [] _ _
  refine p_aload_n rfl dX6_steps_0 ?_
  refine p_aload_n rfl dX6_steps_1 ?_
  refine p_iload_n rfl dX6_steps_2 ?_
  refine p_iload_n rfl dX6_steps_3 ?_
  refine p_iload_n rfl dX6_steps_4 ?_
  refine p_iload rfl dX6_steps_5 ?_
  refine p_callV (c0 := 0) (av := [.int _, .int _, .int _, .int _]) qV_RX6_60 rfl rfl rfl rfl (Nat.le_of_ble_eq_true rfl) (Nat.le_of_ble_eq_true rfl) dX6_steps_7 (tX6_stepsOf (by omega) (ok_b hF)) (fun r0 s2 hF => ?_)
  obtain ⟨r1, rfl, hF⟩ := hF
  refine p_callV (c0 := 0) (av := [.int _]) qV_RX6_64 rfl rfl rfl rfl (Nat.le_of_ble_eq_true rfl) (Nat.le_of_ble_eq_true rfl) dX6_steps_10 (tX6_ended (ok_b hF)) (fun r0 s4 hF => ?_)
  obtain ⟨r3, rfl, hF⟩ := hF
  exact p_iret rfl dX6_steps_13 (ok_r (j := jI) hF)
theorem b_X6_bucket_20 {d : Nat} (hd : 1 ≤ d) {Q : Option Value → Hp → Prop}   (sg : Hp) (hF : ok jI (B_X6_bucket_20   sg) Q) : pw tC (d + 1) mX6_bucket 20 [] [] sg Q := by
  unfold B_X6_bucket_20 at hF
  refine p_bipush (v := -2) (by decide) dX6_bucket_20 ?_
  exact p_iret rfl dX6_bucket_22 (ok_r (j := jI) hF)
theorem tX6_bucket {d : Nat} (hd : 2 ≤ d) {Q : Option Value → Hp → Prop} {a1 : Int32} {a2 : Int32} {sg : Hp} (hF : ok jI (fX6_bucket a1 a2 sg) Q) : pw tC d mX6_bucket 0 (lv_args 0 [.ref 0, .int a1, .int a2]) [] sg Q := by
  unfold fX6_bucket at hF
  obtain ⟨d, rfl⟩ : ∃ e, d = e + 1 := ⟨d - 1, by omega⟩
  have hd : 1 ≤ d := by omega
  show pw _ _ _ _ [(0, .ref 0), (1, .int a1), (2, .int a2)] [] _ _
  refine p_iload_n rfl dX6_bucket_0 ?_
  refine p_sipush (v := 9999) (by decide) dX6_bucket_1 ?_
  refine p_callS (av := [.int _, .int _]) qS_RX6_68 rfl (Nat.le_of_ble_eq_true rfl) (Nat.le_of_ble_eq_true rfl) dX6_bucket_4 (tX6_isUpTo (ok_b hF)) (fun r0 s2 hF => ?_)
  obtain ⟨r1, rfl, hF⟩ := hF
  refine p_if_eq (tgt := 20) dX6_bucket_7 (by decide) (fun hc => ?_) (fun hc => ?_)
  · have hF := ok_t hc hF
    exact p_lv [] rfl (b_X6_bucket_20 hd  _ hF)
  · have hF := ok_f hc hF
    refine p_iload_n rfl dX6_bucket_10 ?_
    refine p_sipush (v := 999) (by decide) dX6_bucket_11 ?_
    refine p_callS (av := [.int _, .int _]) qS_RX6_68 rfl (Nat.le_of_ble_eq_true rfl) (Nat.le_of_ble_eq_true rfl) dX6_bucket_14 (tX6_isUpTo (ok_b hF)) (fun r0 s4 hF => ?_)
    obtain ⟨r3, rfl, hF⟩ := hF
    refine p_if_ne (tgt := 23) dX6_bucket_17 (by decide) (fun hc => ?_) (fun hc => ?_)
    · have hF := ok_f hc hF
      refine p_aload_n rfl dX6_bucket_23 ?_
      refine p_getR (c1 := 1) qF_RX6_12 rfl rfl dX6_bucket_24 ?_
      refine p_callV (c0 := 1) (av := []) qV_RX6_72 rfl rfl rfl rfl (Nat.le_of_ble_eq_true rfl) (Nat.le_of_ble_eq_true rfl) dX6_bucket_27 (tX4_isFull (ok_b hF)) (fun r0 s6 hF => ?_)
      obtain ⟨r5, rfl, hF⟩ := hF
      refine p_if_eq (tgt := 36) dX6_bucket_30 (by decide) (fun hc => ?_) (fun hc => ?_)
      · have hF := ok_t hc hF
        refine p_iload_n rfl dX6_bucket_36 ?_
        refine p_iload_n rfl dX6_bucket_37 ?_
        refine p_aload_n rfl dX6_bucket_38 ?_
        refine p_getR (c1 := 1) qF_RX6_12 rfl rfl dX6_bucket_39 ?_
        refine p_callV (c0 := 1) (av := []) qV_RX6_76 rfl rfl rfl rfl (Nat.le_of_ble_eq_true rfl) (Nat.le_of_ble_eq_true rfl) dX6_bucket_42 (tX4_nextRow (ok_b hF)) (fun r0 s8 hF => ?_)
        obtain ⟨r7, rfl, hF⟩ := hF
        refine p_callS (av := [.int _, .int _, .ref _]) qS_RX6_80 rfl (Nat.le_of_ble_eq_true rfl) (Nat.le_of_ble_eq_true rfl) dX6_bucket_45 (tX1_fillBucket (by omega) (ok_b hF)) (fun r0 s10 hF => ?_)
        obtain ⟨r9, rfl, hF⟩ := hF
        refine p_aload_n rfl dX6_bucket_48 ?_
        refine p_getR (c1 := 1) qF_RX6_12 rfl rfl dX6_bucket_49 ?_
        refine p_iconst (v := 1) (by decide) dX6_bucket_52 ?_
        refine p_callV (c0 := 1) (av := [.int _]) qV_RX6_86 rfl rfl rfl rfl (Nat.le_of_ble_eq_true rfl) (Nat.le_of_ble_eq_true rfl) dX6_bucket_53 (tX4_keepNext (ok_b hF)) (fun r0 s12 hF => ?_)
        obtain ⟨r11, rfl, hF⟩ := hF
        exact p_iret rfl dX6_bucket_56 (ok_r (j := jI) hF)
      · have hF := ok_f hc hF
        refine p_bipush (v := -4) (by decide) dX6_bucket_33 ?_
        exact p_iret rfl dX6_bucket_35 (ok_r (j := jI) hF)
    · have hF := ok_t hc hF
      exact p_lv [] rfl (b_X6_bucket_20 hd  _ hF)
theorem b_X6_late_19 {d : Nat} {Q : Option Value → Hp → Prop}   (sg : Hp) (hF : ok jI (B_X6_late_19   sg) Q) : pw tC (d + 1) mX6_late 19 [] [] sg Q := by
  unfold B_X6_late_19 at hF
  refine p_bipush (v := -2) (by decide) dX6_late_19 ?_
  exact p_iret rfl dX6_late_21 (ok_r (j := jI) hF)
theorem tX6_late {d : Nat} (hd : 1 ≤ d) {Q : Option Value → Hp → Prop} {a1 : Int32} {a2 : Int32} {sg : Hp} (hF : ok jI (fX6_late a1 a2 sg) Q) : pw tC d mX6_late 0 (lv_args 0 [.ref 0, .int a1, .int a2]) [] sg Q := by
  unfold fX6_late at hF
  obtain ⟨d, rfl⟩ : ∃ e, d = e + 1 := ⟨d - 1, by omega⟩
  show pw _ _ _ _ [(0, .ref 0), (1, .int a1), (2, .int a2)] [] _ _
  refine p_iload_n rfl dX6_late_0 ?_
  refine p_bipush (v := 40) (by decide) dX6_late_1 ?_
  refine p_callS (av := [.int _, .int _]) qS_RX6_68 rfl (Nat.le_of_ble_eq_true rfl) (Nat.le_of_ble_eq_true rfl) dX6_late_3 (tX6_isUpTo (ok_b hF)) (fun r0 s2 hF => ?_)
  obtain ⟨r1, rfl, hF⟩ := hF
  refine p_if_eq (tgt := 19) dX6_late_6 (by decide) (fun hc => ?_) (fun hc => ?_)
  · have hF := ok_t hc hF
    exact p_lv [] rfl (b_X6_late_19  _ hF)
  · have hF := ok_f hc hF
    refine p_iload_n rfl dX6_late_9 ?_
    refine p_sipush (v := 999) (by decide) dX6_late_10 ?_
    refine p_callS (av := [.int _, .int _]) qS_RX6_68 rfl (Nat.le_of_ble_eq_true rfl) (Nat.le_of_ble_eq_true rfl) dX6_late_13 (tX6_isUpTo (ok_b hF)) (fun r0 s4 hF => ?_)
    obtain ⟨r3, rfl, hF⟩ := hF
    refine p_if_ne (tgt := 22) dX6_late_16 (by decide) (fun hc => ?_) (fun hc => ?_)
    · have hF := ok_f hc hF
      refine p_aload_n rfl dX6_late_22 ?_
      refine p_getR (c1 := 1) qF_RX6_12 rfl rfl dX6_late_23 ?_
      refine p_callV (c0 := 1) (av := []) qV_RX6_72 rfl rfl rfl rfl (Nat.le_of_ble_eq_true rfl) (Nat.le_of_ble_eq_true rfl) dX6_late_26 (tX4_isFull (ok_b hF)) (fun r0 s6 hF => ?_)
      obtain ⟨r5, rfl, hF⟩ := hF
      refine p_if_eq (tgt := 35) dX6_late_29 (by decide) (fun hc => ?_) (fun hc => ?_)
      · have hF := ok_t hc hF
        refine p_iload_n rfl dX6_late_35 ?_
        refine p_iload_n rfl dX6_late_36 ?_
        refine p_aload_n rfl dX6_late_37 ?_
        refine p_getR (c1 := 1) qF_RX6_12 rfl rfl dX6_late_38 ?_
        refine p_callV (c0 := 1) (av := []) qV_RX6_76 rfl rfl rfl rfl (Nat.le_of_ble_eq_true rfl) (Nat.le_of_ble_eq_true rfl) dX6_late_41 (tX4_nextRow (ok_b hF)) (fun r0 s8 hF => ?_)
        obtain ⟨r7, rfl, hF⟩ := hF
        refine p_callS (av := [.int _, .int _, .ref _]) qS_RX6_89 rfl (Nat.le_of_ble_eq_true rfl) (Nat.le_of_ble_eq_true rfl) dX6_late_44 (tX1_fillLate (ok_b hF)) (fun r0 s10 hF => ?_)
        obtain ⟨r9, rfl, hF⟩ := hF
        refine p_aload_n rfl dX6_late_47 ?_
        refine p_getR (c1 := 1) qF_RX6_12 rfl rfl dX6_late_48 ?_
        refine p_iconst (v := 2) (by decide) dX6_late_51 ?_
        refine p_callV (c0 := 1) (av := [.int _]) qV_RX6_86 rfl rfl rfl rfl (Nat.le_of_ble_eq_true rfl) (Nat.le_of_ble_eq_true rfl) dX6_late_52 (tX4_keepNext (ok_b hF)) (fun r0 s12 hF => ?_)
        obtain ⟨r11, rfl, hF⟩ := hF
        exact p_iret rfl dX6_late_55 (ok_r (j := jI) hF)
      · have hF := ok_f hc hF
        refine p_bipush (v := -4) (by decide) dX6_late_32 ?_
        exact p_iret rfl dX6_late_34 (ok_r (j := jI) hF)
    · have hF := ok_t hc hF
      exact p_lv [] rfl (b_X6_late_19  _ hF)
theorem tX6_stairOfText {d : Nat} (hd : 5 ≤ d) {Q : Option Value → Hp → Prop} {a1 : Int32} {a2 : Int32} {a3 : Int32} {a4 : Int32} {sg : Hp} (hF : ok jI (fX6_stairOfText a1 a2 a3 a4 sg) Q) : pw tC d mX6_stairOfText 0 (lv_args 0 [.ref 0, .int a1, .int a2, .int a3, .int a4]) [] sg Q := by
  unfold fX6_stairOfText at hF
  obtain ⟨d, rfl⟩ : ∃ e, d = e + 1 := ⟨d - 1, by omega⟩
  have hd : 4 ≤ d := by omega
  show pw _ _ _ _ [(0, .ref 0), (1, .int a1), (2, .int a2), (3, .int a3), (4, .int a4)] [] _ _
  refine p_aload_n rfl dX6_stairOfText_0 ?_
  refine p_getR (c1 := 4) qF_RX6_35 rfl rfl dX6_stairOfText_1 ?_
  refine p_iload_n rfl dX6_stairOfText_4 ?_
  refine p_iload_n rfl dX6_stairOfText_5 ?_
  refine p_iload_n rfl dX6_stairOfText_6 ?_
  refine p_iload rfl dX6_stairOfText_7 ?_
  refine p_aload_n rfl dX6_stairOfText_9 ?_
  refine p_getR (c1 := 6) qF_RX6_46 rfl rfl dX6_stairOfText_10 ?_
  refine p_callV (c0 := 4) (av := [.int _, .int _, .int _, .int _, .ref 6]) qV_RX6_103 rfl rfl rfl rfl (Nat.le_of_ble_eq_true rfl) (Nat.le_of_ble_eq_true rfl) dX6_stairOfText_13 (tX3_take (by omega) (ok_b hF)) (fun r0 s2 hF => ?_)
  obtain ⟨r1, rfl, hF⟩ := hF
  refine p_istore (Nat.le_of_ble_eq_true rfl) rfl dX6_stairOfText_16 ?_
  refine p_iload rfl dX6_stairOfText_18 ?_
  refine p_if_eq (tgt := 26) dX6_stairOfText_20 (by decide) (fun hc => ?_) (fun hc => ?_)
  · have hF := ok_t hc hF
    refine p_aload_n rfl dX6_stairOfText_26 ?_
    refine p_getR (c1 := 5) qF_RX6_42 rfl rfl dX6_stairOfText_27 ?_
    refine p_aload_n rfl dX6_stairOfText_30 ?_
    refine p_getR (c1 := 6) qF_RX6_46 rfl rfl dX6_stairOfText_31 ?_
    refine p_iload rfl dX6_stairOfText_34 ?_
    refine p_callV (c0 := 5) (av := [.ref 6, .int _]) qV_RX6_114 rfl rfl rfl rfl (Nat.le_of_ble_eq_true rfl) (Nat.le_of_ble_eq_true rfl) dX6_stairOfText_36 (tX5_read (by omega) (ok_b hF)) (fun r0 s4 hF => ?_)
    obtain ⟨r3, rfl, hF⟩ := hF
    refine p_istore (Nat.le_of_ble_eq_true rfl) rfl dX6_stairOfText_39 ?_
    refine p_iload rfl dX6_stairOfText_41 ?_
    refine p_iconst (v := -1) (by decide) dX6_stairOfText_43 ?_
    refine p_icmp_eq (tgt := 53) dX6_stairOfText_44 (by decide) (fun hc => ?_) (fun hc => ?_)
    · have hF := ok_t hc hF
      refine p_aload_n rfl dX6_stairOfText_53 ?_
      refine p_getR (c1 := 1) qF_RX6_12 rfl rfl dX6_stairOfText_54 ?_
      refine p_callV (c0 := 1) (av := []) qV_RX6_72 rfl rfl rfl rfl (Nat.le_of_ble_eq_true rfl) (Nat.le_of_ble_eq_true rfl) dX6_stairOfText_57 (tX4_isFull (ok_b hF)) (fun r0 s6 hF => ?_)
      obtain ⟨r5, rfl, hF⟩ := hF
      refine p_if_eq (tgt := 66) dX6_stairOfText_60 (by decide) (fun hc => ?_) (fun hc => ?_)
      · have hF := ok_t hc hF
        refine p_aload_n rfl dX6_stairOfText_66 ?_
        refine p_getR (c1 := 5) qF_RX6_42 rfl rfl dX6_stairOfText_67 ?_
        refine p_getR (c1 := 29) qF_RX6_118 rfl rfl dX6_stairOfText_70 ?_
        refine p_aload_n rfl dX6_stairOfText_73 ?_
        refine p_getR (c1 := 1) qF_RX6_12 rfl rfl dX6_stairOfText_74 ?_
        refine p_callV (c0 := 1) (av := []) qV_RX6_76 rfl rfl rfl rfl (Nat.le_of_ble_eq_true rfl) (Nat.le_of_ble_eq_true rfl) dX6_stairOfText_77 (tX4_nextRow (ok_b hF)) (fun r0 s8 hF => ?_)
        obtain ⟨r7, rfl, hF⟩ := hF
        refine p_callS (av := [.ref 29, .ref _]) qS_RX6_121 rfl (Nat.le_of_ble_eq_true rfl) (Nat.le_of_ble_eq_true rfl) dX6_stairOfText_80 (tX1_fillSame (by omega) (ok_b hF)) (fun r0 s10 hF => ?_)
        obtain ⟨r9, rfl, hF⟩ := hF
        refine p_aload_n rfl dX6_stairOfText_83 ?_
        refine p_getR (c1 := 1) qF_RX6_12 rfl rfl dX6_stairOfText_84 ?_
        refine p_aload_n rfl dX6_stairOfText_87 ?_
        refine p_getR (c1 := 5) qF_RX6_42 rfl rfl dX6_stairOfText_88 ?_
        refine p_getI qF_RX6_125 rfl rfl dX6_stairOfText_91 ?_
        refine p_callV (c0 := 1) (av := [.int _]) qV_RX6_86 rfl rfl rfl rfl (Nat.le_of_ble_eq_true rfl) (Nat.le_of_ble_eq_true rfl) dX6_stairOfText_94 (tX4_keepNext (ok_b hF)) (fun r0 s12 hF => ?_)
        obtain ⟨r11, rfl, hF⟩ := hF
        exact p_iret rfl dX6_stairOfText_97 (ok_r (j := jI) hF)
      · have hF := ok_f hc hF
        refine p_bipush (v := -4) (by decide) dX6_stairOfText_63 ?_
        exact p_iret rfl dX6_stairOfText_65 (ok_r (j := jI) hF)
    · have hF := ok_f hc hF
      refine p_bipush (v := -100) (by decide) dX6_stairOfText_47 ?_
      refine p_iload rfl dX6_stairOfText_49 ?_
      refine p_isub dX6_stairOfText_51 ?_
      exact p_iret rfl dX6_stairOfText_52 (ok_r (j := jI) hF)
  · have hF := ok_f hc hF
    refine p_iload rfl dX6_stairOfText_23 ?_
    exact p_iret rfl dX6_stairOfText_25 (ok_r (j := jI) hF)
theorem tX6_text {d : Nat} (hd : 6 ≤ d) {Q : Option Value → Hp → Prop} {a1 : Int32} {a2 : Int32} {a3 : Int32} {a4 : Int32} {sg : Hp} (hF : ok jI (fX6_text a1 a2 a3 a4 sg) Q) : pw tC d mX6_text 0 (lv_args 0 [.ref 0, .int a1, .int a2, .int a3, .int a4]) [] sg Q := by
  unfold fX6_text at hF
  obtain ⟨d, rfl⟩ : ∃ e, d = e + 1 := ⟨d - 1, by omega⟩
  have hd : 5 ≤ d := by omega
  show pw _ _ _ _ [(0, .ref 0), (1, .int a1), (2, .int a2), (3, .int a3), (4, .int a4)] [] _ _
  refine p_aload_n rfl dX6_text_0 ?_
  refine p_aload_n rfl dX6_text_1 ?_
  refine p_iload_n rfl dX6_text_2 ?_
  refine p_iload_n rfl dX6_text_3 ?_
  refine p_iload_n rfl dX6_text_4 ?_
  refine p_iload rfl dX6_text_5 ?_
  refine p_callV (c0 := 0) (av := [.int _, .int _, .int _, .int _]) qV_RX6_92 rfl rfl rfl rfl (Nat.le_of_ble_eq_true rfl) (Nat.le_of_ble_eq_true rfl) dX6_text_7 (tX6_stairOfText (by omega) (ok_b hF)) (fun r0 s2 hF => ?_)
  obtain ⟨r1, rfl, hF⟩ := hF
  refine p_callV (c0 := 0) (av := [.int _]) qV_RX6_64 rfl rfl rfl rfl (Nat.le_of_ble_eq_true rfl) (Nat.le_of_ble_eq_true rfl) dX6_text_10 (tX6_ended (ok_b hF)) (fun r0 s4 hF => ?_)
  obtain ⟨r3, rfl, hF⟩ := hF
  exact p_iret rfl dX6_text_13 (ok_r (j := jI) hF)
theorem tX6_at {d : Nat} (hd : 1 ≤ d) {Q : Option Value → Hp → Prop} {a1 : Int32} {a2 : Int32} {sg : Hp} (hF : ok jI (fX6_at a1 a2 sg) Q) : pw tC d mX6_at 0 (lv_args 0 [.ref 0, .int a1, .int a2]) [] sg Q := by
  unfold fX6_at at hF
  obtain ⟨d, rfl⟩ : ∃ e, d = e + 1 := ⟨d - 1, by omega⟩
  show pw _ _ _ _ [(0, .ref 0), (1, .int a1), (2, .int a2)] [] _ _
  refine p_aload_n rfl dX6_at_0 ?_
  refine p_getR (c1 := 1) qF_RX6_12 rfl rfl dX6_at_1 ?_
  refine p_iload_n rfl dX6_at_4 ?_
  refine p_callV (c0 := 1) (av := [.int _]) qV_RX6_95 rfl rfl rfl rfl (Nat.le_of_ble_eq_true rfl) (Nat.le_of_ble_eq_true rfl) dX6_at_5 (tX4_has (ok_b hF)) (fun r0 s2 hF => ?_)
  obtain ⟨r1, rfl, hF⟩ := hF
  refine p_if_ne (tgt := 13) dX6_at_8 (by decide) (fun hc => ?_) (fun hc => ?_)
  · have hF := ok_f hc hF
    refine p_iload_n rfl dX6_at_13 ?_
    refine p_bipush (v := 40) (by decide) dX6_at_14 ?_
    refine p_callS (av := [.int _, .int _]) qS_RX6_68 rfl (Nat.le_of_ble_eq_true rfl) (Nat.le_of_ble_eq_true rfl) dX6_at_16 (tX6_isUpTo (ok_b hF)) (fun r0 s4 hF => ?_)
    obtain ⟨r3, rfl, hF⟩ := hF
    refine p_if_ne (tgt := 25) dX6_at_19 (by decide) (fun hc => ?_) (fun hc => ?_)
    · have hF := ok_f hc hF
      refine p_aload_n rfl dX6_at_25 ?_
      refine p_getR (c1 := 1) qF_RX6_12 rfl rfl dX6_at_26 ?_
      refine p_iload_n rfl dX6_at_29 ?_
      refine p_callV (c0 := 1) (av := [.int _]) qV_RX6_99 rfl rfl rfl rfl (Nat.le_of_ble_eq_true rfl) (Nat.le_of_ble_eq_true rfl) dX6_at_30 (tX4_row (ok_b hF)) (fun r0 s6 hF => ?_)
      obtain ⟨r5, rfl, hF⟩ := hF
      refine p_iload_n rfl dX6_at_33 ?_
      obtain ⟨hg, hF⟩ := ok_g hF
      refine p_iald (isA_in hg) (inb_in hg) dX6_at_34 ?_
      exact p_iret rfl dX6_at_35 (ok_r (j := jI) hF)
    · have hF := ok_t hc hF
      refine p_bipush (v := -2) (by decide) dX6_at_22 ?_
      exact p_iret rfl dX6_at_24 (ok_r (j := jI) hF)
  · have hF := ok_t hc hF
    refine p_iconst (v := -1) (by decide) dX6_at_11 ?_
    exact p_iret rfl dX6_at_12 (ok_r (j := jI) hF)
theorem b_X6_make_22 {d : Nat} (hd : 2 ≤ d) {Q : Option Value → Hp → Prop}   (sg : Hp) (hF : ok jI (B_X6_make_22   sg) Q) : pw tC (d + 1) mX6_make 22 [] [] sg Q := by
  unfold B_X6_make_22 at hF
  refine p_iconst (v := -1) (by decide) dX6_make_22 ?_
  exact p_iret rfl dX6_make_23 (ok_r (j := jI) hF)
theorem tX6_make {d : Nat} (hd : 3 ≤ d) {Q : Option Value → Hp → Prop} {a1 : Int32} {a2 : Int32} {a3 : Int32} {sg : Hp} (hF : ok jI (fX6_make a1 a2 a3 sg) Q) : pw tC d mX6_make 0 (lv_args 0 [.ref 0, .int a1, .int a2, .int a3]) [] sg Q := by
  unfold fX6_make at hF
  obtain ⟨d, rfl⟩ : ∃ e, d = e + 1 := ⟨d - 1, by omega⟩
  have hd : 2 ≤ d := by omega
  show pw _ _ _ _ [(0, .ref 0), (1, .int a1), (2, .int a2), (3, .int a3)] [] _ _
  refine p_aload_n rfl dX6_make_0 ?_
  refine p_getR (c1 := 1) qF_RX6_12 rfl rfl dX6_make_1 ?_
  refine p_iload_n rfl dX6_make_4 ?_
  refine p_callV (c0 := 1) (av := [.int _]) qV_RX6_95 rfl rfl rfl rfl (Nat.le_of_ble_eq_true rfl) (Nat.le_of_ble_eq_true rfl) dX6_make_5 (tX4_has (ok_b hF)) (fun r0 s2 hF => ?_)
  obtain ⟨r1, rfl, hF⟩ := hF
  refine p_if_eq (tgt := 22) dX6_make_8 (by decide) (fun hc => ?_) (fun hc => ?_)
  · have hF := ok_t hc hF
    exact p_lv [] rfl (b_X6_make_22 hd  _ hF)
  · have hF := ok_f hc hF
    refine p_aload_n rfl dX6_make_11 ?_
    refine p_getR (c1 := 1) qF_RX6_12 rfl rfl dX6_make_12 ?_
    refine p_iload_n rfl dX6_make_15 ?_
    refine p_callV (c0 := 1) (av := [.int _]) qV_RX6_95 rfl rfl rfl rfl (Nat.le_of_ble_eq_true rfl) (Nat.le_of_ble_eq_true rfl) dX6_make_16 (tX4_has (ok_b hF)) (fun r0 s4 hF => ?_)
    obtain ⟨r3, rfl, hF⟩ := hF
    refine p_if_ne (tgt := 24) dX6_make_19 (by decide) (fun hc => ?_) (fun hc => ?_)
    · have hF := ok_f hc hF
      refine p_iload_n rfl dX6_make_24 ?_
      refine p_iconst (v := 4) (by decide) dX6_make_25 ?_
      refine p_callS (av := [.int _, .int _]) qS_RX6_68 rfl (Nat.le_of_ble_eq_true rfl) (Nat.le_of_ble_eq_true rfl) dX6_make_26 (tX6_isUpTo (ok_b hF)) (fun r0 s6 hF => ?_)
      obtain ⟨r5, rfl, hF⟩ := hF
      refine p_if_ne (tgt := 35) dX6_make_29 (by decide) (fun hc => ?_) (fun hc => ?_)
      · have hF := ok_f hc hF
        refine p_aload_n rfl dX6_make_35 ?_
        refine p_getR (c1 := 1) qF_RX6_12 rfl rfl dX6_make_36 ?_
        refine p_callV (c0 := 1) (av := []) qV_RX6_72 rfl rfl rfl rfl (Nat.le_of_ble_eq_true rfl) (Nat.le_of_ble_eq_true rfl) dX6_make_39 (tX4_isFull (ok_b hF)) (fun r0 s8 hF => ?_)
        obtain ⟨r7, rfl, hF⟩ := hF
        refine p_if_eq (tgt := 48) dX6_make_42 (by decide) (fun hc => ?_) (fun hc => ?_)
        · have hF := ok_t hc hF
          refine p_iload_n rfl dX6_make_48 ?_
          refine p_aload_n rfl dX6_make_49 ?_
          refine p_getR (c1 := 1) qF_RX6_12 rfl rfl dX6_make_50 ?_
          refine p_iload_n rfl dX6_make_53 ?_
          refine p_callV (c0 := 1) (av := [.int _]) qV_RX6_99 rfl rfl rfl rfl (Nat.le_of_ble_eq_true rfl) (Nat.le_of_ble_eq_true rfl) dX6_make_54 (tX4_row (ok_b hF)) (fun r0 s10 hF => ?_)
          obtain ⟨r9, rfl, hF⟩ := hF
          refine p_aload_n rfl dX6_make_57 ?_
          refine p_getR (c1 := 1) qF_RX6_12 rfl rfl dX6_make_58 ?_
          refine p_iload_n rfl dX6_make_61 ?_
          refine p_callV (c0 := 1) (av := [.int _]) qV_RX6_99 rfl rfl rfl rfl (Nat.le_of_ble_eq_true rfl) (Nat.le_of_ble_eq_true rfl) dX6_make_62 (tX4_row (ok_b hF)) (fun r0 s12 hF => ?_)
          obtain ⟨r11, rfl, hF⟩ := hF
          refine p_aload_n rfl dX6_make_65 ?_
          refine p_getR (c1 := 1) qF_RX6_12 rfl rfl dX6_make_66 ?_
          refine p_callV (c0 := 1) (av := []) qV_RX6_76 rfl rfl rfl rfl (Nat.le_of_ble_eq_true rfl) (Nat.le_of_ble_eq_true rfl) dX6_make_69 (tX4_nextRow (ok_b hF)) (fun r0 s14 hF => ?_)
          obtain ⟨r13, rfl, hF⟩ := hF
          refine p_callS (av := [.int _, .ref _, .ref _, .ref _]) qS_RX6_128 rfl (Nat.le_of_ble_eq_true rfl) (Nat.le_of_ble_eq_true rfl) dX6_make_72 (tX1_fillMade (by omega) (ok_b hF)) (fun r0 s16 hF => ?_)
          obtain ⟨r15, rfl, hF⟩ := hF
          refine p_aload_n rfl dX6_make_75 ?_
          refine p_getR (c1 := 1) qF_RX6_12 rfl rfl dX6_make_76 ?_
          refine p_iconst (v := 0) (by decide) dX6_make_79 ?_
          refine p_callV (c0 := 1) (av := [.int _]) qV_RX6_86 rfl rfl rfl rfl (Nat.le_of_ble_eq_true rfl) (Nat.le_of_ble_eq_true rfl) dX6_make_80 (tX4_keepNext (ok_b hF)) (fun r0 s18 hF => ?_)
          obtain ⟨r17, rfl, hF⟩ := hF
          exact p_iret rfl dX6_make_83 (ok_r (j := jI) hF)
        · have hF := ok_f hc hF
          refine p_bipush (v := -4) (by decide) dX6_make_45 ?_
          exact p_iret rfl dX6_make_47 (ok_r (j := jI) hF)
      · have hF := ok_t hc hF
        refine p_bipush (v := -2) (by decide) dX6_make_32 ?_
        exact p_iret rfl dX6_make_34 (ok_r (j := jI) hF)
    · have hF := ok_t hc hF
      exact p_lv [] rfl (b_X6_make_22 hd  _ hF)
theorem b_X6_move_30 {d : Nat} (hd : 1 ≤ d) {Q : Option Value → Hp → Prop}   (sg : Hp) (hF : ok jI (B_X6_move_30   sg) Q) : pw tC (d + 1) mX6_move 30 [] [] sg Q := by
  unfold B_X6_move_30 at hF
  refine p_bipush (v := -2) (by decide) dX6_move_30 ?_
  exact p_iret rfl dX6_move_32 (ok_r (j := jI) hF)
theorem b_X6_move_91 {d : Nat} (hd : 1 ≤ d) {Q : Option Value → Hp → Prop}   (sg : Hp) (hF : ok jI (B_X6_move_91   sg) Q) : pw tC (d + 1) mX6_move 91 [(0, .ref 0)] [] sg Q := by
  unfold B_X6_move_91 at hF
  refine p_aload_n rfl dX6_move_91 ?_
  refine p_getR (c1 := 1) qF_RX6_12 rfl rfl dX6_move_92 ?_
  refine p_iconst (v := 0) (by decide) dX6_move_95 ?_
  refine p_callV (c0 := 1) (av := [.int _]) qV_RX6_86 rfl rfl rfl rfl (Nat.le_of_ble_eq_true rfl) (Nat.le_of_ble_eq_true rfl) dX6_move_96 (tX4_keepNext (ok_b hF)) (fun r0 s16 hF => ?_)
  obtain ⟨r15, rfl, hF⟩ := hF
  exact p_iret rfl dX6_move_99 (ok_r (j := jI) hF)
theorem tX6_move {d : Nat} (hd : 2 ≤ d) {Q : Option Value → Hp → Prop} {a1 : Int32} {a2 : Int32} {a3 : Int32} {sg : Hp} (hF : ok jI (fX6_move a1 a2 a3 sg) Q) : pw tC d mX6_move 0 (lv_args 0 [.ref 0, .int a1, .int a2, .int a3]) [] sg Q := by
  unfold fX6_move at hF
  obtain ⟨d, rfl⟩ : ∃ e, d = e + 1 := ⟨d - 1, by omega⟩
  have hd : 1 ≤ d := by omega
  show pw _ _ _ _ [(0, .ref 0), (1, .int a1), (2, .int a2), (3, .int a3)] [] _ _
  refine p_aload_n rfl dX6_move_0 ?_
  refine p_getR (c1 := 1) qF_RX6_12 rfl rfl dX6_move_1 ?_
  refine p_iload_n rfl dX6_move_4 ?_
  refine p_callV (c0 := 1) (av := [.int _]) qV_RX6_95 rfl rfl rfl rfl (Nat.le_of_ble_eq_true rfl) (Nat.le_of_ble_eq_true rfl) dX6_move_5 (tX4_has (ok_b hF)) (fun r0 s2 hF => ?_)
  obtain ⟨r1, rfl, hF⟩ := hF
  refine p_if_ne (tgt := 13) dX6_move_8 (by decide) (fun hc => ?_) (fun hc => ?_)
  · have hF := ok_f hc hF
    refine p_iload_n rfl dX6_move_13 ?_
    refine p_iconst (v := 1) (by decide) dX6_move_14 ?_
    refine p_callS (av := [.int _, .int _]) qS_RX6_68 rfl (Nat.le_of_ble_eq_true rfl) (Nat.le_of_ble_eq_true rfl) dX6_move_15 (tX6_isUpTo (ok_b hF)) (fun r0 s4 hF => ?_)
    obtain ⟨r3, rfl, hF⟩ := hF
    refine p_if_eq (tgt := 30) dX6_move_18 (by decide) (fun hc => ?_) (fun hc => ?_)
    · have hF := ok_t hc hF
      exact p_lv [] rfl (b_X6_move_30 hd  _ hF)
    · have hF := ok_f hc hF
      refine p_iload_n rfl dX6_move_21 ?_
      refine p_bipush (v := 40) (by decide) dX6_move_22 ?_
      refine p_callS (av := [.int _, .int _]) qS_RX6_68 rfl (Nat.le_of_ble_eq_true rfl) (Nat.le_of_ble_eq_true rfl) dX6_move_24 (tX6_isUpTo (ok_b hF)) (fun r0 s6 hF => ?_)
      obtain ⟨r5, rfl, hF⟩ := hF
      refine p_if_ne (tgt := 33) dX6_move_27 (by decide) (fun hc => ?_) (fun hc => ?_)
      · have hF := ok_f hc hF
        refine p_aload_n rfl dX6_move_33 ?_
        refine p_getR (c1 := 1) qF_RX6_12 rfl rfl dX6_move_34 ?_
        refine p_callV (c0 := 1) (av := []) qV_RX6_72 rfl rfl rfl rfl (Nat.le_of_ble_eq_true rfl) (Nat.le_of_ble_eq_true rfl) dX6_move_37 (tX4_isFull (ok_b hF)) (fun r0 s8 hF => ?_)
        obtain ⟨r7, rfl, hF⟩ := hF
        refine p_if_eq (tgt := 46) dX6_move_40 (by decide) (fun hc => ?_) (fun hc => ?_)
        · have hF := ok_t hc hF
          refine p_iload_n rfl dX6_move_46 ?_
          refine p_if_ne (tgt := 72) dX6_move_47 (by decide) (fun hc => ?_) (fun hc => ?_)
          · have hF := ok_f hc hF
            refine p_aload_n rfl dX6_move_72 ?_
            refine p_getR (c1 := 1) qF_RX6_12 rfl rfl dX6_move_73 ?_
            refine p_iload_n rfl dX6_move_76 ?_
            refine p_callV (c0 := 1) (av := [.int _]) qV_RX6_99 rfl rfl rfl rfl (Nat.le_of_ble_eq_true rfl) (Nat.le_of_ble_eq_true rfl) dX6_move_77 (tX4_row (ok_b hF)) (fun r0 s10 hF => ?_)
            obtain ⟨r9, rfl, hF⟩ := hF
            refine p_iload_n rfl dX6_move_80 ?_
            refine p_aload_n rfl dX6_move_81 ?_
            refine p_getR (c1 := 1) qF_RX6_12 rfl rfl dX6_move_82 ?_
            refine p_callV (c0 := 1) (av := []) qV_RX6_76 rfl rfl rfl rfl (Nat.le_of_ble_eq_true rfl) (Nat.le_of_ble_eq_true rfl) dX6_move_85 (tX4_nextRow (ok_b hF)) (fun r0 s12 hF => ?_)
            obtain ⟨r11, rfl, hF⟩ := hF
            refine p_callS (av := [.ref _, .int _, .ref _]) qS_RX6_135 rfl (Nat.le_of_ble_eq_true rfl) (Nat.le_of_ble_eq_true rfl) dX6_move_88 (tX1_fillAhead (by omega) (ok_b hF)) (fun r0 s14 hF => ?_)
            obtain ⟨r13, rfl, hF⟩ := hF
            exact p_lv [0] rfl (b_X6_move_91 hd  _ hF)
          · have hF := ok_t hc hF
            refine p_aload_n rfl dX6_move_50 ?_
            refine p_getR (c1 := 1) qF_RX6_12 rfl rfl dX6_move_51 ?_
            refine p_iload_n rfl dX6_move_54 ?_
            refine p_callV (c0 := 1) (av := [.int _]) qV_RX6_99 rfl rfl rfl rfl (Nat.le_of_ble_eq_true rfl) (Nat.le_of_ble_eq_true rfl) dX6_move_55 (tX4_row (ok_b hF)) (fun r0 s18 hF => ?_)
            obtain ⟨r17, rfl, hF⟩ := hF
            refine p_iload_n rfl dX6_move_58 ?_
            refine p_aload_n rfl dX6_move_59 ?_
            refine p_getR (c1 := 1) qF_RX6_12 rfl rfl dX6_move_60 ?_
            refine p_callV (c0 := 1) (av := []) qV_RX6_76 rfl rfl rfl rfl (Nat.le_of_ble_eq_true rfl) (Nat.le_of_ble_eq_true rfl) dX6_move_63 (tX4_nextRow (ok_b hF)) (fun r0 s20 hF => ?_)
            obtain ⟨r19, rfl, hF⟩ := hF
            refine p_callS (av := [.ref _, .int _, .ref _]) qS_RX6_132 rfl (Nat.le_of_ble_eq_true rfl) (Nat.le_of_ble_eq_true rfl) dX6_move_66 (tX1_fillHeldBack (ok_b hF)) (fun r0 s22 hF => ?_)
            obtain ⟨r21, rfl, hF⟩ := hF
            refine p_goto (tgt := 91) dX6_move_69 (by decide) ?_
            exact p_lv [0] rfl (b_X6_move_91 hd  _ hF)
        · have hF := ok_f hc hF
          refine p_bipush (v := -4) (by decide) dX6_move_43 ?_
          exact p_iret rfl dX6_move_45 (ok_r (j := jI) hF)
      · have hF := ok_t hc hF
        exact p_lv [] rfl (b_X6_move_30 hd  _ hF)
  · have hF := ok_t hc hF
    refine p_iconst (v := -1) (by decide) dX6_move_11 ?_
    exact p_iret rfl dX6_move_12 (ok_r (j := jI) hF)
theorem b_X6_delay_22 {d : Nat} (hd : 1 ≤ d) {Q : Option Value → Hp → Prop}   (sg : Hp) (hF : ok jI (B_X6_delay_22   sg) Q) : pw tC (d + 1) mX6_delay 22 [] [] sg Q := by
  unfold B_X6_delay_22 at hF
  refine p_iconst (v := -1) (by decide) dX6_delay_22 ?_
  exact p_iret rfl dX6_delay_23 (ok_r (j := jI) hF)
theorem tX6_delay {d : Nat} (hd : 2 ≤ d) {Q : Option Value → Hp → Prop} {a1 : Int32} {a2 : Int32} {sg : Hp} (hF : ok jI (fX6_delay a1 a2 sg) Q) : pw tC d mX6_delay 0 (lv_args 0 [.ref 0, .int a1, .int a2]) [] sg Q := by
  unfold fX6_delay at hF
  obtain ⟨d, rfl⟩ : ∃ e, d = e + 1 := ⟨d - 1, by omega⟩
  have hd : 1 ≤ d := by omega
  show pw _ _ _ _ [(0, .ref 0), (1, .int a1), (2, .int a2)] [] _ _
  refine p_aload_n rfl dX6_delay_0 ?_
  refine p_getR (c1 := 1) qF_RX6_12 rfl rfl dX6_delay_1 ?_
  refine p_iload_n rfl dX6_delay_4 ?_
  refine p_callV (c0 := 1) (av := [.int _]) qV_RX6_95 rfl rfl rfl rfl (Nat.le_of_ble_eq_true rfl) (Nat.le_of_ble_eq_true rfl) dX6_delay_5 (tX4_has (ok_b hF)) (fun r0 s2 hF => ?_)
  obtain ⟨r1, rfl, hF⟩ := hF
  refine p_if_eq (tgt := 22) dX6_delay_8 (by decide) (fun hc => ?_) (fun hc => ?_)
  · have hF := ok_t hc hF
    exact p_lv [] rfl (b_X6_delay_22 hd  _ hF)
  · have hF := ok_f hc hF
    refine p_aload_n rfl dX6_delay_11 ?_
    refine p_getR (c1 := 1) qF_RX6_12 rfl rfl dX6_delay_12 ?_
    refine p_iload_n rfl dX6_delay_15 ?_
    refine p_callV (c0 := 1) (av := [.int _]) qV_RX6_95 rfl rfl rfl rfl (Nat.le_of_ble_eq_true rfl) (Nat.le_of_ble_eq_true rfl) dX6_delay_16 (tX4_has (ok_b hF)) (fun r0 s4 hF => ?_)
    obtain ⟨r3, rfl, hF⟩ := hF
    refine p_if_ne (tgt := 24) dX6_delay_19 (by decide) (fun hc => ?_) (fun hc => ?_)
    · have hF := ok_f hc hF
      refine p_aload_n rfl dX6_delay_24 ?_
      refine p_getR (c1 := 1) qF_RX6_12 rfl rfl dX6_delay_25 ?_
      refine p_iload_n rfl dX6_delay_28 ?_
      refine p_callV (c0 := 1) (av := [.int _]) qV_RX6_99 rfl rfl rfl rfl (Nat.le_of_ble_eq_true rfl) (Nat.le_of_ble_eq_true rfl) dX6_delay_29 (tX4_row (ok_b hF)) (fun r0 s6 hF => ?_)
      obtain ⟨r5, rfl, hF⟩ := hF
      refine p_aload_n rfl dX6_delay_32 ?_
      refine p_getR (c1 := 1) qF_RX6_12 rfl rfl dX6_delay_33 ?_
      refine p_iload_n rfl dX6_delay_36 ?_
      refine p_callV (c0 := 1) (av := [.int _]) qV_RX6_99 rfl rfl rfl rfl (Nat.le_of_ble_eq_true rfl) (Nat.le_of_ble_eq_true rfl) dX6_delay_37 (tX4_row (ok_b hF)) (fun r0 s8 hF => ?_)
      obtain ⟨r7, rfl, hF⟩ := hF
      refine p_bipush (v := 20) (by decide) dX6_delay_40 ?_
      refine p_callS (av := [.ref _, .ref _, .int _]) qS_RX6_138 rfl (Nat.le_of_ble_eq_true rfl) (Nat.le_of_ble_eq_true rfl) dX6_delay_42 (tX1_longestWait (by omega) (ok_b hF)) (fun r0 s10 hF => ?_)
      obtain ⟨r9, rfl, hF⟩ := hF
      exact p_iret rfl dX6_delay_45 (ok_r (j := jI) hF)
    · have hF := ok_t hc hF
      exact p_lv [] rfl (b_X6_delay_22 hd  _ hF)
theorem b_X6_heap_22 {d : Nat} (hd : 1 ≤ d) {Q : Option Value → Hp → Prop}   (sg : Hp) (hF : ok jI (B_X6_heap_22   sg) Q) : pw tC (d + 1) mX6_heap 22 [] [] sg Q := by
  unfold B_X6_heap_22 at hF
  refine p_iconst (v := -1) (by decide) dX6_heap_22 ?_
  exact p_iret rfl dX6_heap_23 (ok_r (j := jI) hF)
theorem tX6_heap {d : Nat} (hd : 2 ≤ d) {Q : Option Value → Hp → Prop} {a1 : Int32} {a2 : Int32} {sg : Hp} (hF : ok jI (fX6_heap a1 a2 sg) Q) : pw tC d mX6_heap 0 (lv_args 0 [.ref 0, .int a1, .int a2]) [] sg Q := by
  unfold fX6_heap at hF
  obtain ⟨d, rfl⟩ : ∃ e, d = e + 1 := ⟨d - 1, by omega⟩
  have hd : 1 ≤ d := by omega
  show pw _ _ _ _ [(0, .ref 0), (1, .int a1), (2, .int a2)] [] _ _
  refine p_aload_n rfl dX6_heap_0 ?_
  refine p_getR (c1 := 1) qF_RX6_12 rfl rfl dX6_heap_1 ?_
  refine p_iload_n rfl dX6_heap_4 ?_
  refine p_callV (c0 := 1) (av := [.int _]) qV_RX6_95 rfl rfl rfl rfl (Nat.le_of_ble_eq_true rfl) (Nat.le_of_ble_eq_true rfl) dX6_heap_5 (tX4_has (ok_b hF)) (fun r0 s2 hF => ?_)
  obtain ⟨r1, rfl, hF⟩ := hF
  refine p_if_eq (tgt := 22) dX6_heap_8 (by decide) (fun hc => ?_) (fun hc => ?_)
  · have hF := ok_t hc hF
    exact p_lv [] rfl (b_X6_heap_22 hd  _ hF)
  · have hF := ok_f hc hF
    refine p_aload_n rfl dX6_heap_11 ?_
    refine p_getR (c1 := 1) qF_RX6_12 rfl rfl dX6_heap_12 ?_
    refine p_iload_n rfl dX6_heap_15 ?_
    refine p_callV (c0 := 1) (av := [.int _]) qV_RX6_95 rfl rfl rfl rfl (Nat.le_of_ble_eq_true rfl) (Nat.le_of_ble_eq_true rfl) dX6_heap_16 (tX4_has (ok_b hF)) (fun r0 s4 hF => ?_)
    obtain ⟨r3, rfl, hF⟩ := hF
    refine p_if_ne (tgt := 24) dX6_heap_19 (by decide) (fun hc => ?_) (fun hc => ?_)
    · have hF := ok_f hc hF
      refine p_aload_n rfl dX6_heap_24 ?_
      refine p_getR (c1 := 1) qF_RX6_12 rfl rfl dX6_heap_25 ?_
      refine p_iload_n rfl dX6_heap_28 ?_
      refine p_callV (c0 := 1) (av := [.int _]) qV_RX6_99 rfl rfl rfl rfl (Nat.le_of_ble_eq_true rfl) (Nat.le_of_ble_eq_true rfl) dX6_heap_29 (tX4_row (ok_b hF)) (fun r0 s6 hF => ?_)
      obtain ⟨r5, rfl, hF⟩ := hF
      refine p_aload_n rfl dX6_heap_32 ?_
      refine p_getR (c1 := 1) qF_RX6_12 rfl rfl dX6_heap_33 ?_
      refine p_iload_n rfl dX6_heap_36 ?_
      refine p_callV (c0 := 1) (av := [.int _]) qV_RX6_99 rfl rfl rfl rfl (Nat.le_of_ble_eq_true rfl) (Nat.le_of_ble_eq_true rfl) dX6_heap_37 (tX4_row (ok_b hF)) (fun r0 s8 hF => ?_)
      obtain ⟨r7, rfl, hF⟩ := hF
      refine p_callS (av := [.ref _, .ref _]) qS_RX6_142 rfl (Nat.le_of_ble_eq_true rfl) (Nat.le_of_ble_eq_true rfl) dX6_heap_40 (tX1_greatestHeap (by omega) (ok_b hF)) (fun r0 s10 hF => ?_)
      obtain ⟨r9, rfl, hF⟩ := hF
      exact p_iret rfl dX6_heap_43 (ok_r (j := jI) hF)
    · have hF := ok_t hc hF
      exact p_lv [] rfl (b_X6_heap_22 hd  _ hF)
theorem b_X6_within_22 {d : Nat} (hd : 1 ≤ d) {Q : Option Value → Hp → Prop}   (sg : Hp) (hF : ok jI (B_X6_within_22   sg) Q) : pw tC (d + 1) mX6_within 22 [] [] sg Q := by
  unfold B_X6_within_22 at hF
  refine p_iconst (v := -1) (by decide) dX6_within_22 ?_
  exact p_iret rfl dX6_within_23 (ok_r (j := jI) hF)
theorem b_X6_within_51 {d : Nat} (hd : 1 ≤ d) {Q : Option Value → Hp → Prop}  (vk0 : Int32) (sg : Hp) (hF : ok jI (B_X6_within_51  vk0 sg) Q) : pw tC (d + 1) mX6_within 51 [] [.int vk0] sg Q := by
  unfold B_X6_within_51 at hF
  exact p_iret rfl dX6_within_51 (ok_r (j := jI) hF)
theorem tX6_within {d : Nat} (hd : 2 ≤ d) {Q : Option Value → Hp → Prop} {a1 : Int32} {a2 : Int32} {sg : Hp} (hF : ok jI (fX6_within a1 a2 sg) Q) : pw tC d mX6_within 0 (lv_args 0 [.ref 0, .int a1, .int a2]) [] sg Q := by
  unfold fX6_within at hF
  obtain ⟨d, rfl⟩ : ∃ e, d = e + 1 := ⟨d - 1, by omega⟩
  have hd : 1 ≤ d := by omega
  show pw _ _ _ _ [(0, .ref 0), (1, .int a1), (2, .int a2)] [] _ _
  refine p_aload_n rfl dX6_within_0 ?_
  refine p_getR (c1 := 1) qF_RX6_12 rfl rfl dX6_within_1 ?_
  refine p_iload_n rfl dX6_within_4 ?_
  refine p_callV (c0 := 1) (av := [.int _]) qV_RX6_95 rfl rfl rfl rfl (Nat.le_of_ble_eq_true rfl) (Nat.le_of_ble_eq_true rfl) dX6_within_5 (tX4_has (ok_b hF)) (fun r0 s2 hF => ?_)
  obtain ⟨r1, rfl, hF⟩ := hF
  refine p_if_eq (tgt := 22) dX6_within_8 (by decide) (fun hc => ?_) (fun hc => ?_)
  · have hF := ok_t hc hF
    exact p_lv [] rfl (b_X6_within_22 hd  _ hF)
  · have hF := ok_f hc hF
    refine p_aload_n rfl dX6_within_11 ?_
    refine p_getR (c1 := 1) qF_RX6_12 rfl rfl dX6_within_12 ?_
    refine p_iload_n rfl dX6_within_15 ?_
    refine p_callV (c0 := 1) (av := [.int _]) qV_RX6_95 rfl rfl rfl rfl (Nat.le_of_ble_eq_true rfl) (Nat.le_of_ble_eq_true rfl) dX6_within_16 (tX4_has (ok_b hF)) (fun r0 s4 hF => ?_)
    obtain ⟨r3, rfl, hF⟩ := hF
    refine p_if_ne (tgt := 24) dX6_within_19 (by decide) (fun hc => ?_) (fun hc => ?_)
    · have hF := ok_f hc hF
      refine p_aload_n rfl dX6_within_24 ?_
      refine p_getR (c1 := 1) qF_RX6_12 rfl rfl dX6_within_25 ?_
      refine p_iload_n rfl dX6_within_28 ?_
      refine p_callV (c0 := 1) (av := [.int _]) qV_RX6_99 rfl rfl rfl rfl (Nat.le_of_ble_eq_true rfl) (Nat.le_of_ble_eq_true rfl) dX6_within_29 (tX4_row (ok_b hF)) (fun r0 s6 hF => ?_)
      obtain ⟨r5, rfl, hF⟩ := hF
      refine p_aload_n rfl dX6_within_32 ?_
      refine p_getR (c1 := 1) qF_RX6_12 rfl rfl dX6_within_33 ?_
      refine p_iload_n rfl dX6_within_36 ?_
      refine p_callV (c0 := 1) (av := [.int _]) qV_RX6_99 rfl rfl rfl rfl (Nat.le_of_ble_eq_true rfl) (Nat.le_of_ble_eq_true rfl) dX6_within_37 (tX4_row (ok_b hF)) (fun r0 s8 hF => ?_)
      obtain ⟨r7, rfl, hF⟩ := hF
      refine p_callS (av := [.ref _, .ref _]) qS_RX6_142 rfl (Nat.le_of_ble_eq_true rfl) (Nat.le_of_ble_eq_true rfl) dX6_within_40 (tX1_greatestHeap (by omega) (ok_b hF)) (fun r0 s10 hF => ?_)
      obtain ⟨r9, rfl, hF⟩ := hF
      refine p_if_ne (tgt := 50) dX6_within_43 (by decide) (fun hc => ?_) (fun hc => ?_)
      · have hF := ok_f hc hF
        refine p_iconst (v := 0) (by decide) dX6_within_50 ?_
        exact p_lv [] rfl (b_X6_within_51 hd  _ _ hF)
      · have hF := ok_t hc hF
        refine p_iconst (v := 1) (by decide) dX6_within_46 ?_
        refine p_goto (tgt := 51) dX6_within_47 (by decide) ?_
        exact p_lv [] rfl (b_X6_within_51 hd  _ _ hF)
    · have hF := ok_t hc hF
      exact p_lv [] rfl (b_X6_within_22 hd  _ hF)
theorem b_X6_serve_25 {d : Nat} (hd : 2 ≤ d) {Q : Option Value → Hp → Prop}   (sg : Hp) (hF : ok jI (B_X6_serve_25   sg) Q) : pw tC (d + 1) mX6_serve 25 [] [] sg Q := by
  unfold B_X6_serve_25 at hF
  refine p_iconst (v := -1) (by decide) dX6_serve_25 ?_
  exact p_iret rfl dX6_serve_26 (ok_r (j := jI) hF)
theorem b_X6_serve_71 {d : Nat} (hd : 2 ≤ d) {Q : Option Value → Hp → Prop}  (v3 : Int32) (sg : Hp) (hF : ok jI (B_X6_serve_71  v3 sg) Q) : pw tC (d + 1) mX6_serve 71 [(3, .int v3)] [] sg Q := by
  unfold B_X6_serve_71 at hF
  refine p_iload_n rfl dX6_serve_71 ?_
  exact p_iret rfl dX6_serve_72 (ok_r (j := jI) hF)
theorem b_X6_serve_27 {d : Nat} (hd : 2 ≤ d) {Q : Option Value → Hp → Prop}  (v1 : Int32) (v2 : Int32) (sg : Hp) (hF : ok jI (B_X6_serve_27  v1 v2 sg) Q) : pw tC (d + 1) mX6_serve 27 [(0, .ref 0), (1, .int v1), (2, .int v2)] [] sg Q := by
  unfold B_X6_serve_27 at hF
  refine p_aload_n rfl dX6_serve_27 ?_
  refine p_getR (c1 := 2) qF_RX6_21 rfl rfl dX6_serve_28 ?_
  refine p_getR (c1 := 10) qF_RX6_146 rfl rfl dX6_serve_31 ?_
  refine p_iload_n rfl dX6_serve_34 ?_
  obtain ⟨hg, hF⟩ := ok_g hF
  refine p_iald rfl (inb_in hg) dX6_serve_35 ?_
  refine p_istore_n (Nat.le_of_ble_eq_true rfl) rfl dX6_serve_36 ?_
  refine p_iload_n rfl dX6_serve_37 ?_
  refine p_bipush (v := -9) (by decide) dX6_serve_38 ?_
  refine p_icmp_ne (tgt := 54) dX6_serve_40 (by decide) (fun hc => ?_) (fun hc => ?_)
  · have hF := ok_f hc hF
    refine p_aload_n rfl dX6_serve_54 ?_
    refine p_getR (c1 := 2) qF_RX6_21 rfl rfl dX6_serve_55 ?_
    refine p_iload_n rfl dX6_serve_58 ?_
    refine p_iload_n rfl dX6_serve_59 ?_
    refine p_aload_n rfl dX6_serve_60 ?_
    refine p_getR (c1 := 1) qF_RX6_12 rfl rfl dX6_serve_61 ?_
    refine p_iload_n rfl dX6_serve_64 ?_
    refine p_callV (c0 := 1) (av := [.int _]) qV_RX6_99 rfl rfl rfl rfl (Nat.le_of_ble_eq_true rfl) (Nat.le_of_ble_eq_true rfl) dX6_serve_65 (tX4_row (ok_b hF)) (fun r0 s4 hF => ?_)
    obtain ⟨r3, rfl, hF⟩ := hF
    refine p_callV (c0 := 2) (av := [.int _, .int _, .ref _]) qV_RX6_153 rfl rfl rfl rfl (Nat.le_of_ble_eq_true rfl) (Nat.le_of_ble_eq_true rfl) dX6_serve_68 (tX0_serveBy (by omega) (ok_b hF)) (fun r0 s6 hF => ?_)
    obtain ⟨r5, rfl, hF⟩ := hF
    exact p_lv [3] rfl (b_X6_serve_71 hd  _ _ hF)
  · have hF := ok_t hc hF
    refine p_aload_n rfl dX6_serve_43 ?_
    refine p_getR (c1 := 2) qF_RX6_21 rfl rfl dX6_serve_44 ?_
    refine p_iload_n rfl dX6_serve_47 ?_
    refine p_callV (c0 := 2) (av := [.int _]) qV_RX6_149 rfl rfl rfl rfl (Nat.le_of_ble_eq_true rfl) (Nat.le_of_ble_eq_true rfl) dX6_serve_48 (tX0_serveNothing (ok_b hF)) (fun r0 s8 hF => ?_)
    obtain ⟨r7, rfl, hF⟩ := hF
    refine p_goto (tgt := 71) dX6_serve_51 (by decide) ?_
    exact p_lv [3] rfl (b_X6_serve_71 hd  _ _ hF)
theorem tX6_serve {d : Nat} (hd : 3 ≤ d) {Q : Option Value → Hp → Prop} {a1 : Int32} {a2 : Int32} {sg : Hp} (hF : ok jI (fX6_serve a1 a2 sg) Q) : pw tC d mX6_serve 0 (lv_args 0 [.ref 0, .int a1, .int a2]) [] sg Q := by
  unfold fX6_serve at hF
  obtain ⟨d, rfl⟩ : ∃ e, d = e + 1 := ⟨d - 1, by omega⟩
  have hd : 2 ≤ d := by omega
  show pw _ _ _ _ [(0, .ref 0), (1, .int a1), (2, .int a2)] [] _ _
  refine p_iload_n rfl dX6_serve_0 ?_
  refine p_iconst (v := 5) (by decide) dX6_serve_1 ?_
  refine p_callS (av := [.int _, .int _]) qS_RX6_68 rfl (Nat.le_of_ble_eq_true rfl) (Nat.le_of_ble_eq_true rfl) dX6_serve_2 (tX6_isUpTo (ok_b hF)) (fun r0 s2 hF => ?_)
  obtain ⟨r1, rfl, hF⟩ := hF
  refine p_if_eq (tgt := 25) dX6_serve_5 (by decide) (fun hc => ?_) (fun hc => ?_)
  · have hF := ok_t hc hF
    exact p_lv [] rfl (b_X6_serve_25 hd  _ hF)
  · have hF := ok_f hc hF
    refine p_iload_n rfl dX6_serve_8 ?_
    refine p_bipush (v := -9) (by decide) dX6_serve_9 ?_
    refine p_icmp_eq (tgt := 27) dX6_serve_11 (by decide) (fun hc => ?_) (fun hc => ?_)
    · have hF := ok_t hc hF
      exact p_lv [0, 1, 2] rfl (b_X6_serve_27 hd  _ _ _ hF)
    · have hF := ok_f hc hF
      refine p_aload_n rfl dX6_serve_14 ?_
      refine p_getR (c1 := 1) qF_RX6_12 rfl rfl dX6_serve_15 ?_
      refine p_iload_n rfl dX6_serve_18 ?_
      refine p_callV (c0 := 1) (av := [.int _]) qV_RX6_95 rfl rfl rfl rfl (Nat.le_of_ble_eq_true rfl) (Nat.le_of_ble_eq_true rfl) dX6_serve_19 (tX4_has (ok_b hF)) (fun r0 s10 hF => ?_)
      obtain ⟨r9, rfl, hF⟩ := hF
      refine p_if_ne (tgt := 27) dX6_serve_22 (by decide) (fun hc => ?_) (fun hc => ?_)
      · have hF := ok_f hc hF
        exact p_lv [0, 1, 2] rfl (b_X6_serve_27 hd  _ _ _ hF)
      · have hF := ok_t hc hF
        exact p_lv [] rfl (b_X6_serve_25 hd  _ hF)
theorem b_X6_whyNoWay_10 {d : Nat} {Q : Option Value → Hp → Prop}   (sg : Hp) (hF : ok jI (B_X6_whyNoWay_10   sg) Q) : pw tC (d + 1) mX6_whyNoWay 10 [] [] sg Q := by
  unfold B_X6_whyNoWay_10 at hF
  refine p_bipush (v := -2) (by decide) dX6_whyNoWay_10 ?_
  exact p_iret rfl dX6_whyNoWay_12 (ok_r (j := jI) hF)
theorem l_X6_whyNoWay_15 {d : Nat} {Q : Option Value → Hp → Prop} {k41 : Int32 → Hp → Option (Int32 × Hp)} (hk41 : ∀ (z1 : Int32) (s2 : Hp), ok jI (k41 z1 s2) Q → pw tC (d + 1) mX6_whyNoWay 41 [(0, .ref 0), (1, .int z1)] [] s2 Q) {k33 : Hp → Option (Int32 × Hp)} (hk33 : ∀ (s2 : Hp), ok jI (k33 s2) Q → pw tC (d + 1) mX6_whyNoWay 33 [] [] s2 Q) : ∀ (n : Nat) (v1 : Int32) (v2 : Int32) (sg : Hp), ok jI (L_X6_whyNoWay_15 k41 k33 n v1 v2 sg) Q → pw tC (d + 1) mX6_whyNoWay 15 [(0, .ref 0), (1, .int v1), (2, .int v2)] [] sg Q := by
  intro n
  induction n with
  | zero =>
    intro v1 v2 sg hF
    obtain ⟨_, _, h9, _⟩ := hF
    cases h9
  | succ n ih =>
    intro v1 v2 sg hF
    refine p_iload_n rfl dX6_whyNoWay_15 ?_
    refine p_iload_n rfl dX6_whyNoWay_16 ?_
    refine p_icmp_ge (tgt := 41) dX6_whyNoWay_17 (by decide) (fun hc => ?_) (fun hc => ?_)
    · have hF := ok_t hc hF
      exact p_lv [0, 1] rfl (hk41 _ _ hF)
    · have hF := ok_f hc hF
      refine p_aload_n rfl dX6_whyNoWay_20 ?_
      refine p_getR (c1 := 6) qF_RX6_46 rfl rfl dX6_whyNoWay_21 ?_
      refine p_iload_n rfl dX6_whyNoWay_24 ?_
      obtain ⟨hg, hF⟩ := ok_g hF
      refine p_iald rfl (inb_in hg) dX6_whyNoWay_25 ?_
      refine p_iconst (v := 5) (by decide) dX6_whyNoWay_26 ?_
      refine p_callS (av := [.int _, .int _]) qS_RX6_68 rfl (Nat.le_of_ble_eq_true rfl) (Nat.le_of_ble_eq_true rfl) dX6_whyNoWay_27 (tX6_isUpTo (ok_b hF)) (fun r0 s2 hF => ?_)
      obtain ⟨r1, rfl, hF⟩ := hF
      refine p_if_ne (tgt := 35) dX6_whyNoWay_30 (by decide) (fun hc => ?_) (fun hc => ?_)
      · have hF := ok_f hc hF
        refine p_iinc (w := 1) (by decide) rfl (Nat.le_of_ble_eq_true rfl) rfl dX6_whyNoWay_35 ?_
        refine p_goto (tgt := 15) dX6_whyNoWay_38 (by decide) ?_
        exact p_lv [0, 1, 2] rfl (ih _ _ _ hF)
      · have hF := ok_t hc hF
        exact p_lv [] rfl (hk33 _ hF)
theorem l_X6_whyNoWay_50 {d : Nat} {Q : Option Value → Hp → Prop} {k79 : Int32 → Int32 → Hp → Option (Int32 × Hp)} (hk79 : ∀ (z1 : Int32) (z2 : Int32) (s2 : Hp), ok jI (k79 z1 z2 s2) Q → pw tC (d + 1) mX6_whyNoWay 79 [(0, .ref 0), (1, .int z1), (2, .int z2)] [] s2 Q) {k70 : Hp → Option (Int32 × Hp)} (hk70 : ∀ (s2 : Hp), ok jI (k70 s2) Q → pw tC (d + 1) mX6_whyNoWay 70 [] [] s2 Q) : ∀ (n : Nat) (v1 : Int32) (v2 : Int32) (v3 : Int32) (sg : Hp), ok jI (L_X6_whyNoWay_50 k79 k70 n v1 v2 v3 sg) Q → pw tC (d + 1) mX6_whyNoWay 50 [(0, .ref 0), (1, .int v1), (2, .int v2), (3, .int v3)] [] sg Q := by
  intro n
  induction n with
  | zero =>
    intro v1 v2 v3 sg hF
    obtain ⟨_, _, h9, _⟩ := hF
    cases h9
  | succ n ih =>
    intro v1 v2 v3 sg hF
    refine p_iload_n rfl dX6_whyNoWay_50 ?_
    refine p_iload_n rfl dX6_whyNoWay_51 ?_
    refine p_icmp_ge (tgt := 79) dX6_whyNoWay_52 (by decide) (fun hc => ?_) (fun hc => ?_)
    · have hF := ok_t hc hF
      exact p_lv [0, 1, 2] rfl (hk79 _ _ _ hF)
    · have hF := ok_f hc hF
      refine p_aload_n rfl dX6_whyNoWay_55 ?_
      refine p_getR (c1 := 6) qF_RX6_46 rfl rfl dX6_whyNoWay_56 ?_
      refine p_iload_n rfl dX6_whyNoWay_59 ?_
      obtain ⟨hg, hF⟩ := ok_g hF
      refine p_iald rfl (inb_in hg) dX6_whyNoWay_60 ?_
      refine p_aload_n rfl dX6_whyNoWay_61 ?_
      refine p_getR (c1 := 6) qF_RX6_46 rfl rfl dX6_whyNoWay_62 ?_
      refine p_iload_n rfl dX6_whyNoWay_65 ?_
      obtain ⟨hg, hF⟩ := ok_g hF
      refine p_iald rfl (inb_in hg) dX6_whyNoWay_66 ?_
      refine p_icmp_ne (tgt := 73) dX6_whyNoWay_67 (by decide) (fun hc => ?_) (fun hc => ?_)
      · have hF := ok_f hc hF
        refine p_iinc (w := 1) (by decide) rfl (Nat.le_of_ble_eq_true rfl) rfl dX6_whyNoWay_73 ?_
        refine p_goto (tgt := 50) dX6_whyNoWay_76 (by decide) ?_
        exact p_lv [0, 1, 2, 3] rfl (ih _ _ _ _ hF)
      · have hF := ok_t hc hF
        exact p_lv [] rfl (hk70 _ hF)
theorem l_X6_whyNoWay_43 {d : Nat} {Q : Option Value → Hp → Prop} {k85 : Hp → Option (Int32 × Hp)} (hk85 : ∀ (s2 : Hp), ok jI (k85 s2) Q → pw tC (d + 1) mX6_whyNoWay 85 [] [] s2 Q) {k70 : Hp → Option (Int32 × Hp)} (hk70 : ∀ (s2 : Hp), ok jI (k70 s2) Q → pw tC (d + 1) mX6_whyNoWay 70 [] [] s2 Q) : ∀ (n : Nat) (v1 : Int32) (v2 : Int32) (sg : Hp), ok jI (L_X6_whyNoWay_43 k85 k70 n v1 v2 sg) Q → pw tC (d + 1) mX6_whyNoWay 43 [(0, .ref 0), (1, .int v1), (2, .int v2)] [] sg Q := by
  intro n
  induction n with
  | zero =>
    intro v1 v2 sg hF
    obtain ⟨_, _, h9, _⟩ := hF
    cases h9
  | succ n ih =>
    intro v1 v2 sg hF
    refine p_iload_n rfl dX6_whyNoWay_43 ?_
    refine p_iload_n rfl dX6_whyNoWay_44 ?_
    refine p_icmp_ge (tgt := 85) dX6_whyNoWay_45 (by decide) (fun hc => ?_) (fun hc => ?_)
    · have hF := ok_t hc hF
      exact p_lv [] rfl (hk85 _ hF)
    · have hF := ok_f hc hF
      refine p_iconst (v := 0) (by decide) dX6_whyNoWay_48 ?_
      refine p_istore_n (Nat.le_of_ble_eq_true rfl) rfl dX6_whyNoWay_49 ?_
      refine p_lv [0, 1, 2, 3] rfl (l_X6_whyNoWay_50 ?_ hk70 200 _ _ _ _ hF)
      intro w5_1 w5_2 s6 hF
      refine p_iinc (w := 1) (by decide) rfl (Nat.le_of_ble_eq_true rfl) rfl dX6_whyNoWay_79 ?_
      refine p_goto (tgt := 43) dX6_whyNoWay_82 (by decide) ?_
      exact p_lv [0, 1, 2] rfl (ih _ _ _ hF)
theorem tX6_whyNoWay {d : Nat} (hd : 1 ≤ d) {Q : Option Value → Hp → Prop} {a1 : Int32} {sg : Hp} (hF : ok jI (fX6_whyNoWay a1 sg) Q) : pw tC d mX6_whyNoWay 0 (lv_args 0 [.ref 0, .int a1]) [] sg Q := by
  unfold fX6_whyNoWay at hF
  obtain ⟨d, rfl⟩ : ∃ e, d = e + 1 := ⟨d - 1, by omega⟩
  show pw _ _ _ _ [(0, .ref 0), (1, .int a1)] [] _ _
  refine p_iload_n rfl dX6_whyNoWay_0 ?_
  refine p_iconst (v := 1) (by decide) dX6_whyNoWay_1 ?_
  refine p_icmp_lt (tgt := 10) dX6_whyNoWay_2 (by decide) (fun hc => ?_) (fun hc => ?_)
  · have hF := ok_t hc hF
    exact p_lv [] rfl (b_X6_whyNoWay_10  _ hF)
  · have hF := ok_f hc hF
    refine p_iload_n rfl dX6_whyNoWay_5 ?_
    refine p_iconst (v := 4) (by decide) dX6_whyNoWay_6 ?_
    refine p_icmp_le (tgt := 13) dX6_whyNoWay_7 (by decide) (fun hc => ?_) (fun hc => ?_)
    · have hF := ok_t hc hF
      refine p_iconst (v := 0) (by decide) dX6_whyNoWay_13 ?_
      refine p_istore_n (Nat.le_of_ble_eq_true rfl) rfl dX6_whyNoWay_14 ?_
      refine p_lv [0, 1, 2] rfl (l_X6_whyNoWay_15 ?_ ?_ 200 _ _ _ hF)
      · intro w3_1 s4 hF
        refine p_iconst (v := 1) (by decide) dX6_whyNoWay_41 ?_
        refine p_istore_n (Nat.le_of_ble_eq_true rfl) rfl dX6_whyNoWay_42 ?_
        refine p_lv [0, 1, 2] rfl (l_X6_whyNoWay_43 ?_ ?_ 200 _ _ _ hF)
        · intro s8 hF
          refine p_iconst (v := 0) (by decide) dX6_whyNoWay_85 ?_
          exact p_iret rfl dX6_whyNoWay_86 (ok_r (j := jI) hF)
        · intro s10 hF
          refine p_bipush (v := -3) (by decide) dX6_whyNoWay_70 ?_
          exact p_iret rfl dX6_whyNoWay_72 (ok_r (j := jI) hF)
      · intro s12 hF
        refine p_iconst (v := -1) (by decide) dX6_whyNoWay_33 ?_
        exact p_iret rfl dX6_whyNoWay_34 (ok_r (j := jI) hF)
    · have hF := ok_f hc hF
      exact p_lv [] rfl (b_X6_whyNoWay_10  _ hF)
theorem b_X6_newFlow_45 {d : Nat} (hd : 2 ≤ d) {Q : Option Value → Hp → Prop}  (v1 : Int32) (v5 : Int32) (v6 : Int32) (sg : Hp) (hF : ok jI (B_X6_newFlow_45  v1 v5 v6 sg) Q) : pw tC (d + 1) mX6_newFlow 45 [(0, .ref 0), (1, .int v1), (5, .int v5), (6, .int v6)] [] sg Q := by
  unfold B_X6_newFlow_45 at hF
  refine p_iload rfl dX6_newFlow_45 ?_
  refine p_if_eq (tgt := 53) dX6_newFlow_47 (by decide) (fun hc => ?_) (fun hc => ?_)
  · have hF := ok_t hc hF
    refine p_aload_n rfl dX6_newFlow_53 ?_
    refine p_getR (c1 := 2) qF_RX6_21 rfl rfl dX6_newFlow_54 ?_
    refine p_callV (c0 := 2) (av := []) qV_RX6_214 rfl rfl rfl rfl (Nat.le_of_ble_eq_true rfl) (Nat.le_of_ble_eq_true rfl) dX6_newFlow_57 (tX0_isFull (ok_b hF)) (fun r0 s6 hF => ?_)
    obtain ⟨r5, rfl, hF⟩ := hF
    refine p_if_eq (tgt := 66) dX6_newFlow_60 (by decide) (fun hc => ?_) (fun hc => ?_)
    · have hF := ok_t hc hF
      refine p_aload_n rfl dX6_newFlow_66 ?_
      refine p_getR (c1 := 2) qF_RX6_21 rfl rfl dX6_newFlow_67 ?_
      refine p_iload_n rfl dX6_newFlow_70 ?_
      refine p_aload_n rfl dX6_newFlow_71 ?_
      refine p_getR (c1 := 1) qF_RX6_12 rfl rfl dX6_newFlow_72 ?_
      refine p_iload_n rfl dX6_newFlow_75 ?_
      refine p_callV (c0 := 1) (av := [.int _]) qV_RX6_99 rfl rfl rfl rfl (Nat.le_of_ble_eq_true rfl) (Nat.le_of_ble_eq_true rfl) dX6_newFlow_76 (tX4_row (ok_b hF)) (fun r0 s8 hF => ?_)
      obtain ⟨r7, rfl, hF⟩ := hF
      refine p_aload_n rfl dX6_newFlow_79 ?_
      refine p_getR (c1 := 6) qF_RX6_46 rfl rfl dX6_newFlow_80 ?_
      refine p_iload rfl dX6_newFlow_83 ?_
      refine p_callV (c0 := 2) (av := [.int _, .ref _, .ref 6, .int _]) qV_RX6_215 rfl rfl rfl rfl (Nat.le_of_ble_eq_true rfl) (Nat.le_of_ble_eq_true rfl) dX6_newFlow_85 (tX0_addFlow (by omega) (ok_b hF)) (fun r0 s10 hF => ?_)
      obtain ⟨r9, rfl, hF⟩ := hF
      exact p_iret rfl dX6_newFlow_88 (ok_r (j := jI) hF)
    · have hF := ok_f hc hF
      refine p_bipush (v := -4) (by decide) dX6_newFlow_63 ?_
      exact p_iret rfl dX6_newFlow_65 (ok_r (j := jI) hF)
  · have hF := ok_f hc hF
    refine p_iload rfl dX6_newFlow_50 ?_
    exact p_iret rfl dX6_newFlow_52 (ok_r (j := jI) hF)
theorem tX6_newFlow {d : Nat} (hd : 3 ≤ d) {Q : Option Value → Hp → Prop} {a1 : Int32} {a2 : Int32} {a3 : Int32} {a4 : Int32} {a5 : Int32} {sg : Hp} (hF : ok jI (fX6_newFlow a1 a2 a3 a4 a5 sg) Q) : pw tC d mX6_newFlow 0 (lv_args 0 [.ref 0, .int a1, .int a2, .int a3, .int a4, .int a5]) [] sg Q := by
  unfold fX6_newFlow at hF
  obtain ⟨d, rfl⟩ : ∃ e, d = e + 1 := ⟨d - 1, by omega⟩
  have hd : 2 ≤ d := by omega
  show pw _ _ _ _ [(0, .ref 0), (1, .int a1), (2, .int a2), (3, .int a3), (4, .int a4), (5, .int a5)] [] _ _
  refine p_aload_n rfl dX6_newFlow_0 ?_
  refine p_getR (c1 := 1) qF_RX6_12 rfl rfl dX6_newFlow_1 ?_
  refine p_iload_n rfl dX6_newFlow_4 ?_
  refine p_callV (c0 := 1) (av := [.int _]) qV_RX6_95 rfl rfl rfl rfl (Nat.le_of_ble_eq_true rfl) (Nat.le_of_ble_eq_true rfl) dX6_newFlow_5 (tX4_has (ok_b hF)) (fun r0 s2 hF => ?_)
  obtain ⟨r1, rfl, hF⟩ := hF
  refine p_if_ne (tgt := 13) dX6_newFlow_8 (by decide) (fun hc => ?_) (fun hc => ?_)
  · have hF := ok_f hc hF
    refine p_aload_n rfl dX6_newFlow_13 ?_
    refine p_getR (c1 := 4) qF_RX6_35 rfl rfl dX6_newFlow_14 ?_
    refine p_iload_n rfl dX6_newFlow_17 ?_
    refine p_iload_n rfl dX6_newFlow_18 ?_
    refine p_iload rfl dX6_newFlow_19 ?_
    refine p_iload rfl dX6_newFlow_21 ?_
    refine p_aload_n rfl dX6_newFlow_23 ?_
    refine p_getR (c1 := 6) qF_RX6_46 rfl rfl dX6_newFlow_24 ?_
    refine p_callV (c0 := 4) (av := [.int _, .int _, .int _, .int _, .ref 6]) qV_RX6_103 rfl rfl rfl rfl (Nat.le_of_ble_eq_true rfl) (Nat.le_of_ble_eq_true rfl) dX6_newFlow_27 (tX3_take (by omega) (ok_b hF)) (fun r0 s4 hF => ?_)
    obtain ⟨r3, rfl, hF⟩ := hF
    refine p_istore (Nat.le_of_ble_eq_true rfl) rfl dX6_newFlow_30 ?_
    refine p_iload rfl dX6_newFlow_32 ?_
    refine p_if_ne (tgt := 45) dX6_newFlow_34 (by decide) (fun hc => ?_) (fun hc => ?_)
    · have hF := ok_f hc hF
      exact p_lv [0, 1, 5, 6] rfl (b_X6_newFlow_45 hd  _ _ _ _ hF)
    · have hF := ok_t hc hF
      refine p_aload_n rfl dX6_newFlow_37 ?_
      refine p_iload rfl dX6_newFlow_38 ?_
      refine p_callV (c0 := 0) (av := [.int _]) qV_RX6_211 rfl rfl rfl rfl (Nat.le_of_ble_eq_true rfl) (Nat.le_of_ble_eq_true rfl) dX6_newFlow_40 (tX6_whyNoWay (by omega) (ok_b hF)) (fun r0 s12 hF => ?_)
      obtain ⟨r11, rfl, hF⟩ := hF
      refine p_istore (Nat.le_of_ble_eq_true rfl) rfl dX6_newFlow_43 ?_
      exact p_lv [0, 1, 5, 6] rfl (b_X6_newFlow_45 hd  _ _ _ _ hF)
  · have hF := ok_t hc hF
    refine p_iconst (v := -1) (by decide) dX6_newFlow_11 ?_
    exact p_iret rfl dX6_newFlow_12 (ok_r (j := jI) hF)
theorem tX6_flow {d : Nat} (hd : 4 ≤ d) {Q : Option Value → Hp → Prop} {a1 : Int32} {a2 : Int32} {a3 : Int32} {a4 : Int32} {a5 : Int32} {sg : Hp} (hF : ok jI (fX6_flow a1 a2 a3 a4 a5 sg) Q) : pw tC d mX6_flow 0 (lv_args 0 [.ref 0, .int a1, .int a2, .int a3, .int a4, .int a5]) [] sg Q := by
  unfold fX6_flow at hF
  obtain ⟨d, rfl⟩ : ∃ e, d = e + 1 := ⟨d - 1, by omega⟩
  have hd : 3 ≤ d := by omega
  show pw _ _ _ _ [(0, .ref 0), (1, .int a1), (2, .int a2), (3, .int a3), (4, .int a4), (5, .int a5)] [] _ _
  refine p_aload_n rfl dX6_flow_0 ?_
  refine p_aload_n rfl dX6_flow_1 ?_
  refine p_iload_n rfl dX6_flow_2 ?_
  refine p_iload_n rfl dX6_flow_3 ?_
  refine p_iload_n rfl dX6_flow_4 ?_
  refine p_iload rfl dX6_flow_5 ?_
  refine p_iload rfl dX6_flow_7 ?_
  refine p_callV (c0 := 0) (av := [.int _, .int _, .int _, .int _, .int _]) qV_RX6_156 rfl rfl rfl rfl (Nat.le_of_ble_eq_true rfl) (Nat.le_of_ble_eq_true rfl) dX6_flow_9 (tX6_newFlow (by omega) (ok_b hF)) (fun r0 s2 hF => ?_)
  obtain ⟨r1, rfl, hF⟩ := hF
  refine p_callV (c0 := 0) (av := [.int _]) qV_RX6_64 rfl rfl rfl rfl (Nat.le_of_ble_eq_true rfl) (Nat.le_of_ble_eq_true rfl) dX6_flow_12 (tX6_ended (ok_b hF)) (fun r0 s4 hF => ?_)
  obtain ⟨r3, rfl, hF⟩ := hF
  exact p_iret rfl dX6_flow_15 (ok_r (j := jI) hF)
theorem b_X6_ofFlow_78 {d : Nat} (hd : 1 ≤ d) {Q : Option Value → Hp → Prop}   (sg : Hp) (hF : ok jI (B_X6_ofFlow_78   sg) Q) : pw tC (d + 1) mX6_ofFlow 78 [] [] sg Q := by
  unfold B_X6_ofFlow_78 at hF
  refine p_bipush (v := -2) (by decide) dX6_ofFlow_78 ?_
  exact p_iret rfl dX6_ofFlow_80 (ok_r (j := jI) hF)
theorem tX6_ofFlow {d : Nat} (hd : 2 ≤ d) {Q : Option Value → Hp → Prop} {a1 : Int32} {a2 : Int32} {sg : Hp} (hF : ok jI (fX6_ofFlow a1 a2 sg) Q) : pw tC d mX6_ofFlow 0 (lv_args 0 [.ref 0, .int a1, .int a2]) [] sg Q := by
  unfold fX6_ofFlow at hF
  obtain ⟨d, rfl⟩ : ∃ e, d = e + 1 := ⟨d - 1, by omega⟩
  have hd : 1 ≤ d := by omega
  show pw _ _ _ _ [(0, .ref 0), (1, .int a1), (2, .int a2)] [] _ _
  refine p_aload_n rfl dX6_ofFlow_0 ?_
  refine p_getR (c1 := 2) qF_RX6_21 rfl rfl dX6_ofFlow_1 ?_
  refine p_iload_n rfl dX6_ofFlow_4 ?_
  refine p_callV (c0 := 2) (av := [.int _]) qV_RX6_160 rfl rfl rfl rfl (Nat.le_of_ble_eq_true rfl) (Nat.le_of_ble_eq_true rfl) dX6_ofFlow_5 (tX0_hasFlow (ok_b hF)) (fun r0 s2 hF => ?_)
  obtain ⟨r1, rfl, hF⟩ := hF
  refine p_if_ne (tgt := 13) dX6_ofFlow_8 (by decide) (fun hc => ?_) (fun hc => ?_)
  · have hF := ok_f hc hF
    refine p_iload_n rfl dX6_ofFlow_13 ?_
    refine p_if_ne (tgt := 27) dX6_ofFlow_14 (by decide) (fun hc => ?_) (fun hc => ?_)
    · have hF := ok_f hc hF
      refine p_iload_n rfl dX6_ofFlow_27 ?_
      refine p_iconst (v := 1) (by decide) dX6_ofFlow_28 ?_
      refine p_icmp_ne (tgt := 42) dX6_ofFlow_29 (by decide) (fun hc => ?_) (fun hc => ?_)
      · have hF := ok_f hc hF
        refine p_iload_n rfl dX6_ofFlow_42 ?_
        refine p_bipush (v := 10) (by decide) dX6_ofFlow_43 ?_
        refine p_icmp_lt (tgt := 78) dX6_ofFlow_45 (by decide) (fun hc => ?_) (fun hc => ?_)
        · have hF := ok_t hc hF
          exact p_lv [] rfl (b_X6_ofFlow_78 hd  _ hF)
        · have hF := ok_f hc hF
          refine p_aload_n rfl dX6_ofFlow_48 ?_
          refine p_getR (c1 := 2) qF_RX6_21 rfl rfl dX6_ofFlow_49 ?_
          refine p_iload_n rfl dX6_ofFlow_52 ?_
          refine p_iload_n rfl dX6_ofFlow_53 ?_
          refine p_bipush (v := 10) (by decide) dX6_ofFlow_54 ?_
          refine p_isub dX6_ofFlow_56 ?_
          refine p_callV (c0 := 2) (av := [.int _, .int _]) qV_RX6_169 rfl rfl rfl rfl (Nat.le_of_ble_eq_true rfl) (Nat.le_of_ble_eq_true rfl) dX6_ofFlow_57 (tX0_hasPlace (by omega) (ok_b hF)) (fun r0 s4 hF => ?_)
          obtain ⟨r3, rfl, hF⟩ := hF
          refine p_if_eq (tgt := 78) dX6_ofFlow_60 (by decide) (fun hc => ?_) (fun hc => ?_)
          · have hF := ok_t hc hF
            exact p_lv [] rfl (b_X6_ofFlow_78 hd  _ hF)
          · have hF := ok_f hc hF
            refine p_aload_n rfl dX6_ofFlow_63 ?_
            refine p_getR (c1 := 2) qF_RX6_21 rfl rfl dX6_ofFlow_64 ?_
            refine p_getR (c1 := 14) qF_RX6_172 rfl rfl dX6_ofFlow_67 ?_
            refine p_iload_n rfl dX6_ofFlow_70 ?_
            obtain ⟨hg, hF⟩ := ok_g hF
            refine p_aald rfl (inb_in hg) dX6_ofFlow_71 ?_
            refine p_iload_n rfl dX6_ofFlow_72 ?_
            refine p_bipush (v := 10) (by decide) dX6_ofFlow_73 ?_
            refine p_isub dX6_ofFlow_75 ?_
            obtain ⟨hg, hF⟩ := ok_g hF
            refine p_iald (isA_in hg) (inb_in hg) dX6_ofFlow_76 ?_
            exact p_iret rfl dX6_ofFlow_77 (ok_r (j := jI) hF)
      · have hF := ok_t hc hF
        refine p_aload_n rfl dX6_ofFlow_32 ?_
        refine p_getR (c1 := 2) qF_RX6_21 rfl rfl dX6_ofFlow_33 ?_
        refine p_getR (c1 := 13) qF_RX6_166 rfl rfl dX6_ofFlow_36 ?_
        refine p_iload_n rfl dX6_ofFlow_39 ?_
        obtain ⟨hg, hF⟩ := ok_g hF
        refine p_iald rfl (inb_in hg) dX6_ofFlow_40 ?_
        exact p_iret rfl dX6_ofFlow_41 (ok_r (j := jI) hF)
    · have hF := ok_t hc hF
      refine p_aload_n rfl dX6_ofFlow_17 ?_
      refine p_getR (c1 := 2) qF_RX6_21 rfl rfl dX6_ofFlow_18 ?_
      refine p_getR (c1 := 12) qF_RX6_163 rfl rfl dX6_ofFlow_21 ?_
      refine p_iload_n rfl dX6_ofFlow_24 ?_
      obtain ⟨hg, hF⟩ := ok_g hF
      refine p_iald rfl (inb_in hg) dX6_ofFlow_25 ?_
      exact p_iret rfl dX6_ofFlow_26 (ok_r (j := jI) hF)
  · have hF := ok_t hc hF
    refine p_iconst (v := -1) (by decide) dX6_ofFlow_11 ?_
    exact p_iret rfl dX6_ofFlow_12 (ok_r (j := jI) hF)
theorem tX6_rule {d : Nat} (hd : 1 ≤ d) {Q : Option Value → Hp → Prop} {a1 : Int32} {sg : Hp} (hF : ok jI (fX6_rule a1 sg) Q) : pw tC d mX6_rule 0 (lv_args 0 [.ref 0, .int a1]) [] sg Q := by
  unfold fX6_rule at hF
  obtain ⟨d, rfl⟩ : ∃ e, d = e + 1 := ⟨d - 1, by omega⟩
  show pw _ _ _ _ [(0, .ref 0), (1, .int a1)] [] _ _
  refine p_iload_n rfl dX6_rule_0 ?_
  refine p_iconst (v := 2) (by decide) dX6_rule_1 ?_
  refine p_callS (av := [.int _, .int _]) qS_RX6_68 rfl (Nat.le_of_ble_eq_true rfl) (Nat.le_of_ble_eq_true rfl) dX6_rule_2 (tX6_isUpTo (ok_b hF)) (fun r0 s2 hF => ?_)
  obtain ⟨r1, rfl, hF⟩ := hF
  refine p_if_ne (tgt := 11) dX6_rule_5 (by decide) (fun hc => ?_) (fun hc => ?_)
  · have hF := ok_f hc hF
    refine p_aload_n rfl dX6_rule_11 ?_
    refine p_getR (c1 := 2) qF_RX6_21 rfl rfl dX6_rule_12 ?_
    refine p_getI qF_RX6_176 rfl rfl dX6_rule_15 ?_
    refine p_istore_n (Nat.le_of_ble_eq_true rfl) rfl dX6_rule_18 ?_
    refine p_aload_n rfl dX6_rule_19 ?_
    refine p_getR (c1 := 2) qF_RX6_21 rfl rfl dX6_rule_20 ?_
    refine p_iload_n rfl dX6_rule_23 ?_
    refine p_callV (c0 := 2) (av := [.int _]) qV_RX6_179 rfl rfl rfl rfl (Nat.le_of_ble_eq_true rfl) (Nat.le_of_ble_eq_true rfl) dX6_rule_24 (tX0_ruleBy (ok_b hF)) (fun r0 s4 hF => ?_)
    obtain ⟨r3, rfl, hF⟩ := hF
    refine p_iload_n rfl dX6_rule_27 ?_
    exact p_iret rfl dX6_rule_28 (ok_r (j := jI) hF)
  · have hF := ok_t hc hF
    refine p_bipush (v := -2) (by decide) dX6_rule_8 ?_
    exact p_iret rfl dX6_rule_10 (ok_r (j := jI) hF)
theorem b_X6_ring_15 {d : Nat} (hd : 3 ≤ d) {Q : Option Value → Hp → Prop}  (vk0 : Int32) (sg : Hp) (hF : ok jI (B_X6_ring_15  vk0 sg) Q) : pw tC (d + 1) mX6_ring 15 [] [.int vk0] sg Q := by
  unfold B_X6_ring_15 at hF
  exact p_iret rfl dX6_ring_15 (ok_r (j := jI) hF)
theorem tX6_ring {d : Nat} (hd : 4 ≤ d) {Q : Option Value → Hp → Prop}  {sg : Hp} (hF : ok jI (fX6_ring  sg) Q) : pw tC d mX6_ring 0 (lv_args 0 [.ref 0]) [] sg Q := by
  unfold fX6_ring at hF
  obtain ⟨d, rfl⟩ : ∃ e, d = e + 1 := ⟨d - 1, by omega⟩
  have hd : 3 ≤ d := by omega
  show pw _ _ _ _ [(0, .ref 0)] [] _ _
  refine p_aload_n rfl dX6_ring_0 ?_
  refine p_getR (c1 := 2) qF_RX6_21 rfl rfl dX6_ring_1 ?_
  refine p_callV (c0 := 2) (av := []) qV_RX6_182 rfl rfl rfl rfl (Nat.le_of_ble_eq_true rfl) (Nat.le_of_ble_eq_true rfl) dX6_ring_4 (tX0_hasRing (by omega) (ok_b hF)) (fun r0 s2 hF => ?_)
  obtain ⟨r1, rfl, hF⟩ := hF
  refine p_if_eq (tgt := 14) dX6_ring_7 (by decide) (fun hc => ?_) (fun hc => ?_)
  · have hF := ok_t hc hF
    refine p_iconst (v := 0) (by decide) dX6_ring_14 ?_
    exact p_lv [] rfl (b_X6_ring_15 hd  _ _ hF)
  · have hF := ok_f hc hF
    refine p_iconst (v := 1) (by decide) dX6_ring_10 ?_
    refine p_goto (tgt := 15) dX6_ring_11 (by decide) ?_
    exact p_lv [] rfl (b_X6_ring_15 hd  _ _ hF)
theorem tX6_latest {d : Nat} (hd : 6 ≤ d) {Q : Option Value → Hp → Prop} {a1 : Int32} {a2 : Int32} {sg : Hp} (hF : ok jI (fX6_latest a1 a2 sg) Q) : pw tC d mX6_latest 0 (lv_args 0 [.ref 0, .int a1, .int a2]) [] sg Q := by
  unfold fX6_latest at hF
  obtain ⟨d, rfl⟩ : ∃ e, d = e + 1 := ⟨d - 1, by omega⟩
  have hd : 5 ≤ d := by omega
  show pw _ _ _ _ [(0, .ref 0), (1, .int a1), (2, .int a2)] [] _ _
  refine p_aload_n rfl dX6_latest_0 ?_
  refine p_getR (c1 := 2) qF_RX6_21 rfl rfl dX6_latest_1 ?_
  refine p_iload_n rfl dX6_latest_4 ?_
  refine p_iload_n rfl dX6_latest_5 ?_
  refine p_callV (c0 := 2) (av := [.int _, .int _]) qV_RX6_169 rfl rfl rfl rfl (Nat.le_of_ble_eq_true rfl) (Nat.le_of_ble_eq_true rfl) dX6_latest_6 (tX0_hasPlace (by omega) (ok_b hF)) (fun r0 s2 hF => ?_)
  obtain ⟨r1, rfl, hF⟩ := hF
  refine p_if_ne (tgt := 14) dX6_latest_9 (by decide) (fun hc => ?_) (fun hc => ?_)
  · have hF := ok_f hc hF
    refine p_aload_n rfl dX6_latest_14 ?_
    refine p_getR (c1 := 2) qF_RX6_21 rfl rfl dX6_latest_15 ?_
    refine p_callV (c0 := 2) (av := []) qV_RX6_185 rfl rfl rfl rfl (Nat.le_of_ble_eq_true rfl) (Nat.le_of_ble_eq_true rfl) dX6_latest_18 (tX0_isBounded (by omega) (ok_b hF)) (fun r0 s4 hF => ?_)
    obtain ⟨r3, rfl, hF⟩ := hF
    refine p_if_ne (tgt := 27) dX6_latest_21 (by decide) (fun hc => ?_) (fun hc => ?_)
    · have hF := ok_f hc hF
      refine p_aload_n rfl dX6_latest_27 ?_
      refine p_getR (c1 := 2) qF_RX6_21 rfl rfl dX6_latest_28 ?_
      refine p_iload_n rfl dX6_latest_31 ?_
      refine p_iload_n rfl dX6_latest_32 ?_
      refine p_callV (c0 := 2) (av := [.int _, .int _]) qV_RX6_188 rfl rfl rfl rfl (Nat.le_of_ble_eq_true rfl) (Nat.le_of_ble_eq_true rfl) dX6_latest_33 (tX0_latestAt (ok_b hF)) (fun r0 s6 hF => ?_)
      obtain ⟨r5, rfl, hF⟩ := hF
      exact p_iret rfl dX6_latest_36 (ok_r (j := jI) hF)
    · have hF := ok_t hc hF
      refine p_bipush (v := -3) (by decide) dX6_latest_24 ?_
      exact p_iret rfl dX6_latest_26 (ok_r (j := jI) hF)
  · have hF := ok_t hc hF
    refine p_iconst (v := -1) (by decide) dX6_latest_12 ?_
    exact p_iret rfl dX6_latest_13 (ok_r (j := jI) hF)
