theorem b_X6_there_32 {d : Nat} (hd : 5 ≤ d) {Q : Option Value → Hp → Prop}   (sg : Hp) (hF : ok jI (B_X6_there_32   sg) Q) : pw tC (d + 1) mX6_there 32 [] [] sg Q := by
  unfold B_X6_there_32 at hF
  refine p_bipush (v := -2) (by decide) dX6_there_32 ?_
  exact p_iret rfl dX6_there_34 (ok_r (j := jI) hF)
theorem b_X6_there_97 {d : Nat} (hd : 5 ≤ d) {Q : Option Value → Hp → Prop}  (vk0 : Int32) (sg : Hp) (hF : ok jI (B_X6_there_97  vk0 sg) Q) : pw tC (d + 1) mX6_there 97 [] [.int vk0] sg Q := by
  unfold B_X6_there_97 at hF
  exact p_iret rfl dX6_there_97 (ok_r (j := jI) hF)
theorem tX6_there {d : Nat} (hd : 6 ≤ d) {Q : Option Value → Hp → Prop} {a1 : Int32} {a2 : Int32} {a3 : Int32} {a4 : Int32} {sg : Hp} (hF : ok jI (fX6_there a1 a2 a3 a4 sg) Q) : pw tC d mX6_there 0 (lv_args 0 [.ref 0, .int a1, .int a2, .int a3, .int a4]) [] sg Q := by
  unfold fX6_there at hF
  obtain ⟨d, rfl⟩ : ∃ e, d = e + 1 := ⟨d - 1, by omega⟩
  have hd : 5 ≤ d := by omega
  show pw _ _ _ _ [(0, .ref 0), (1, .int a1), (2, .int a2), (3, .int a3), (4, .int a4)] [] _ _
  refine p_aload_n rfl dX6_there_0 ?_
  refine p_getR (c1 := 2) qF_RX6_21 rfl rfl dX6_there_1 ?_
  refine p_iload_n rfl dX6_there_4 ?_
  refine p_iload_n rfl dX6_there_5 ?_
  refine p_callV (c0 := 2) (av := [.int _, .int _]) qV_RX6_169 rfl rfl rfl rfl (Nat.le_of_ble_eq_true rfl) (Nat.le_of_ble_eq_true rfl) dX6_there_6 (tX0_hasPlace (by omega) (ok_b hF)) (fun r0 s2 hF => ?_)
  obtain ⟨r1, rfl, hF⟩ := hF
  refine p_if_ne (tgt := 14) dX6_there_9 (by decide) (fun hc => ?_) (fun hc => ?_)
  · have hF := ok_f hc hF
    refine p_iload_n rfl dX6_there_14 ?_
    refine p_iconst (v := 2) (by decide) dX6_there_15 ?_
    refine p_callS (av := [.int _, .int _]) qS_RX6_68 rfl (Nat.le_of_ble_eq_true rfl) (Nat.le_of_ble_eq_true rfl) dX6_there_16 (tX6_isUpTo (ok_b hF)) (fun r0 s4 hF => ?_)
    obtain ⟨r3, rfl, hF⟩ := hF
    refine p_if_eq (tgt := 32) dX6_there_19 (by decide) (fun hc => ?_) (fun hc => ?_)
    · have hF := ok_t hc hF
      exact p_lv [] rfl (b_X6_there_32 hd  _ hF)
    · have hF := ok_f hc hF
      refine p_iload rfl dX6_there_22 ?_
      refine p_bipush (v := 40) (by decide) dX6_there_24 ?_
      refine p_callS (av := [.int _, .int _]) qS_RX6_68 rfl (Nat.le_of_ble_eq_true rfl) (Nat.le_of_ble_eq_true rfl) dX6_there_26 (tX6_isUpTo (ok_b hF)) (fun r0 s6 hF => ?_)
      obtain ⟨r5, rfl, hF⟩ := hF
      refine p_if_ne (tgt := 35) dX6_there_29 (by decide) (fun hc => ?_) (fun hc => ?_)
      · have hF := ok_f hc hF
        refine p_aload_n rfl dX6_there_35 ?_
        refine p_getR (c1 := 2) qF_RX6_21 rfl rfl dX6_there_36 ?_
        refine p_callV (c0 := 2) (av := []) qV_RX6_185 rfl rfl rfl rfl (Nat.le_of_ble_eq_true rfl) (Nat.le_of_ble_eq_true rfl) dX6_there_39 (tX0_isBounded (by omega) (ok_b hF)) (fun r0 s8 hF => ?_)
        obtain ⟨r7, rfl, hF⟩ := hF
        refine p_if_ne (tgt := 48) dX6_there_42 (by decide) (fun hc => ?_) (fun hc => ?_)
        · have hF := ok_f hc hF
          refine p_iload_n rfl dX6_there_48 ?_
          refine p_if_ne (tgt := 65) dX6_there_49 (by decide) (fun hc => ?_) (fun hc => ?_)
          · have hF := ok_f hc hF
            refine p_iload_n rfl dX6_there_65 ?_
            refine p_iconst (v := 1) (by decide) dX6_there_66 ?_
            refine p_icmp_ne (tgt := 85) dX6_there_67 (by decide) (fun hc => ?_) (fun hc => ?_)
            · have hF := ok_f hc hF
              refine p_aload_n rfl dX6_there_85 ?_
              refine p_getR (c1 := 2) qF_RX6_21 rfl rfl dX6_there_86 ?_
              refine p_iload_n rfl dX6_there_89 ?_
              refine p_iload_n rfl dX6_there_90 ?_
              refine p_callV (c0 := 2) (av := [.int _, .int _]) qV_RX6_199 rfl rfl rfl rfl (Nat.le_of_ble_eq_true rfl) (Nat.le_of_ble_eq_true rfl) dX6_there_91 (tX0_goesOnFrom (ok_b hF)) (fun r0 s10 hF => ?_)
              obtain ⟨r9, rfl, hF⟩ := hF
              refine p_iload rfl dX6_there_94 ?_
              obtain ⟨hg, hF⟩ := ok_g hF
              refine p_iald (isA_in hg) (inb_in hg) dX6_there_96 ?_
              exact p_lv [] rfl (b_X6_there_97 hd  _ _ hF)
            · have hF := ok_t hc hF
              refine p_aload_n rfl dX6_there_70 ?_
              refine p_getR (c1 := 2) qF_RX6_21 rfl rfl dX6_there_71 ?_
              refine p_iload_n rfl dX6_there_74 ?_
              refine p_iload_n rfl dX6_there_75 ?_
              refine p_callV (c0 := 2) (av := [.int _, .int _]) qV_RX6_196 rfl rfl rfl rfl (Nat.le_of_ble_eq_true rfl) (Nat.le_of_ble_eq_true rfl) dX6_there_76 (tX0_hasAt (ok_b hF)) (fun r0 s12 hF => ?_)
              obtain ⟨r11, rfl, hF⟩ := hF
              refine p_iload rfl dX6_there_79 ?_
              obtain ⟨hg, hF⟩ := ok_g hF
              refine p_iald (isA_in hg) (inb_in hg) dX6_there_81 ?_
              refine p_goto (tgt := 97) dX6_there_82 (by decide) ?_
              exact p_lv [] rfl (b_X6_there_97 hd  _ _ hF)
          · have hF := ok_t hc hF
            refine p_aload_n rfl dX6_there_52 ?_
            refine p_getR (c1 := 2) qF_RX6_21 rfl rfl dX6_there_53 ?_
            refine p_iload_n rfl dX6_there_56 ?_
            refine p_iload_n rfl dX6_there_57 ?_
            refine p_callV (c0 := 2) (av := [.int _, .int _]) qV_RX6_192 rfl rfl rfl rfl (Nat.le_of_ble_eq_true rfl) (Nat.le_of_ble_eq_true rfl) dX6_there_58 (tX0_comesAt (ok_b hF)) (fun r0 s14 hF => ?_)
            obtain ⟨r13, rfl, hF⟩ := hF
            refine p_iload rfl dX6_there_61 ?_
            obtain ⟨hg, hF⟩ := ok_g hF
            refine p_iald (isA_in hg) (inb_in hg) dX6_there_63 ?_
            exact p_iret rfl dX6_there_64 (ok_r (j := jI) hF)
        · have hF := ok_t hc hF
          refine p_bipush (v := -3) (by decide) dX6_there_45 ?_
          exact p_iret rfl dX6_there_47 (ok_r (j := jI) hF)
      · have hF := ok_t hc hF
        exact p_lv [] rfl (b_X6_there_32 hd  _ hF)
  · have hF := ok_t hc hF
    refine p_iconst (v := -1) (by decide) dX6_there_12 ?_
    exact p_iret rfl dX6_there_13 (ok_r (j := jI) hF)
theorem b_X6_heapAt_34 {d : Nat} (hd : 5 ≤ d) {Q : Option Value → Hp → Prop}   (sg : Hp) (hF : ok jI (B_X6_heapAt_34   sg) Q) : pw tC (d + 1) mX6_heapAt 34 [] [] sg Q := by
  unfold B_X6_heapAt_34 at hF
  refine p_bipush (v := -3) (by decide) dX6_heapAt_34 ?_
  exact p_iret rfl dX6_heapAt_36 (ok_r (j := jI) hF)
theorem tX6_heapAt {d : Nat} (hd : 6 ≤ d) {Q : Option Value → Hp → Prop} {a1 : Int32} {sg : Hp} (hF : ok jI (fX6_heapAt a1 sg) Q) : pw tC d mX6_heapAt 0 (lv_args 0 [.ref 0, .int a1]) [] sg Q := by
  unfold fX6_heapAt at hF
  obtain ⟨d, rfl⟩ : ∃ e, d = e + 1 := ⟨d - 1, by omega⟩
  have hd : 5 ≤ d := by omega
  show pw _ _ _ _ [(0, .ref 0), (1, .int a1)] [] _ _
  refine p_iload_n rfl dX6_heapAt_0 ?_
  refine p_iconst (v := 5) (by decide) dX6_heapAt_1 ?_
  refine p_callS (av := [.int _, .int _]) qS_RX6_68 rfl (Nat.le_of_ble_eq_true rfl) (Nat.le_of_ble_eq_true rfl) dX6_heapAt_2 (tX6_isUpTo (ok_b hF)) (fun r0 s2 hF => ?_)
  obtain ⟨r1, rfl, hF⟩ := hF
  refine p_if_ne (tgt := 10) dX6_heapAt_5 (by decide) (fun hc => ?_) (fun hc => ?_)
  · have hF := ok_f hc hF
    refine p_aload_n rfl dX6_heapAt_10 ?_
    refine p_getR (c1 := 2) qF_RX6_21 rfl rfl dX6_heapAt_11 ?_
    refine p_getR (c1 := 10) qF_RX6_146 rfl rfl dX6_heapAt_14 ?_
    refine p_iload_n rfl dX6_heapAt_17 ?_
    obtain ⟨hg, hF⟩ := ok_g hF
    refine p_iald rfl (inb_in hg) dX6_heapAt_18 ?_
    refine p_bipush (v := -9) (by decide) dX6_heapAt_19 ?_
    refine p_icmp_eq (tgt := 34) dX6_heapAt_21 (by decide) (fun hc => ?_) (fun hc => ?_)
    · have hF := ok_t hc hF
      exact p_lv [] rfl (b_X6_heapAt_34 hd  _ hF)
    · have hF := ok_f hc hF
      refine p_aload_n rfl dX6_heapAt_24 ?_
      refine p_getR (c1 := 2) qF_RX6_21 rfl rfl dX6_heapAt_25 ?_
      refine p_callV (c0 := 2) (av := []) qV_RX6_185 rfl rfl rfl rfl (Nat.le_of_ble_eq_true rfl) (Nat.le_of_ble_eq_true rfl) dX6_heapAt_28 (tX0_isBounded (by omega) (ok_b hF)) (fun r0 s4 hF => ?_)
      obtain ⟨r3, rfl, hF⟩ := hF
      refine p_if_ne (tgt := 37) dX6_heapAt_31 (by decide) (fun hc => ?_) (fun hc => ?_)
      · have hF := ok_f hc hF
        refine p_aload_n rfl dX6_heapAt_37 ?_
        refine p_getR (c1 := 2) qF_RX6_21 rfl rfl dX6_heapAt_38 ?_
        refine p_iload_n rfl dX6_heapAt_41 ?_
        refine p_callV (c0 := 2) (av := [.int _]) qV_RX6_202 rfl rfl rfl rfl (Nat.le_of_ble_eq_true rfl) (Nat.le_of_ble_eq_true rfl) dX6_heapAt_42 (tX0_greatestHeapIn (by omega) (ok_b hF)) (fun r0 s6 hF => ?_)
        obtain ⟨r5, rfl, hF⟩ := hF
        exact p_iret rfl dX6_heapAt_45 (ok_r (j := jI) hF)
      · have hF := ok_t hc hF
        exact p_lv [] rfl (b_X6_heapAt_34 hd  _ hF)
  · have hF := ok_t hc hF
    refine p_iconst (v := -1) (by decide) dX6_heapAt_8 ?_
    exact p_iret rfl dX6_heapAt_9 (ok_r (j := jI) hF)
theorem b_X6_bound_50 {d : Nat} (hd : 5 ≤ d) {Q : Option Value → Hp → Prop}   (sg : Hp) (hF : ok jI (B_X6_bound_50   sg) Q) : pw tC (d + 1) mX6_bound 50 [] [] sg Q := by
  unfold B_X6_bound_50 at hF
  refine p_bipush (v := -3) (by decide) dX6_bound_50 ?_
  exact p_iret rfl dX6_bound_52 (ok_r (j := jI) hF)
theorem b_X6_bound_76 {d : Nat} (hd : 5 ≤ d) {Q : Option Value → Hp → Prop}  (vk0 : Int32) (sg : Hp) (hF : ok jI (B_X6_bound_76  vk0 sg) Q) : pw tC (d + 1) mX6_bound 76 [] [.int vk0] sg Q := by
  unfold B_X6_bound_76 at hF
  exact p_iret rfl dX6_bound_76 (ok_r (j := jI) hF)
theorem b_X6_bound_53 {d : Nat} (hd : 5 ≤ d) {Q : Option Value → Hp → Prop}  (v1 : Int32) (v2 : Int32) (sg : Hp) (hF : ok jI (B_X6_bound_53  v1 v2 sg) Q) : pw tC (d + 1) mX6_bound 53 [(0, .ref 0), (1, .int v1), (2, .int v2)] [] sg Q := by
  unfold B_X6_bound_53 at hF
  refine p_iload_n rfl dX6_bound_53 ?_
  refine p_if_ne (tgt := 68) dX6_bound_54 (by decide) (fun hc => ?_) (fun hc => ?_)
  · have hF := ok_f hc hF
    refine p_aload_n rfl dX6_bound_68 ?_
    refine p_getR (c1 := 2) qF_RX6_21 rfl rfl dX6_bound_69 ?_
    refine p_iload_n rfl dX6_bound_72 ?_
    refine p_callV (c0 := 2) (av := [.int _]) qV_RX6_208 rfl rfl rfl rfl (Nat.le_of_ble_eq_true rfl) (Nat.le_of_ble_eq_true rfl) dX6_bound_73 (tX0_waitAtOnce (by omega) (ok_b hF)) (fun r0 s8 hF => ?_)
    obtain ⟨r7, rfl, hF⟩ := hF
    exact p_lv [] rfl (b_X6_bound_76 hd  _ _ hF)
  · have hF := ok_t hc hF
    refine p_aload_n rfl dX6_bound_57 ?_
    refine p_getR (c1 := 2) qF_RX6_21 rfl rfl dX6_bound_58 ?_
    refine p_iload_n rfl dX6_bound_61 ?_
    refine p_callV (c0 := 2) (av := [.int _]) qV_RX6_205 rfl rfl rfl rfl (Nat.le_of_ble_eq_true rfl) (Nat.le_of_ble_eq_true rfl) dX6_bound_62 (tX0_waitByNodes (by omega) (ok_b hF)) (fun r0 s10 hF => ?_)
    obtain ⟨r9, rfl, hF⟩ := hF
    refine p_goto (tgt := 76) dX6_bound_65 (by decide) ?_
    exact p_lv [] rfl (b_X6_bound_76 hd  _ _ hF)
theorem tX6_bound {d : Nat} (hd : 6 ≤ d) {Q : Option Value → Hp → Prop} {a1 : Int32} {a2 : Int32} {sg : Hp} (hF : ok jI (fX6_bound a1 a2 sg) Q) : pw tC d mX6_bound 0 (lv_args 0 [.ref 0, .int a1, .int a2]) [] sg Q := by
  unfold fX6_bound at hF
  obtain ⟨d, rfl⟩ : ∃ e, d = e + 1 := ⟨d - 1, by omega⟩
  have hd : 5 ≤ d := by omega
  show pw _ _ _ _ [(0, .ref 0), (1, .int a1), (2, .int a2)] [] _ _
  refine p_aload_n rfl dX6_bound_0 ?_
  refine p_getR (c1 := 2) qF_RX6_21 rfl rfl dX6_bound_1 ?_
  refine p_iload_n rfl dX6_bound_4 ?_
  refine p_callV (c0 := 2) (av := [.int _]) qV_RX6_160 rfl rfl rfl rfl (Nat.le_of_ble_eq_true rfl) (Nat.le_of_ble_eq_true rfl) dX6_bound_5 (tX0_hasFlow (ok_b hF)) (fun r0 s2 hF => ?_)
  obtain ⟨r1, rfl, hF⟩ := hF
  refine p_if_ne (tgt := 13) dX6_bound_8 (by decide) (fun hc => ?_) (fun hc => ?_)
  · have hF := ok_f hc hF
    refine p_iload_n rfl dX6_bound_13 ?_
    refine p_iconst (v := 1) (by decide) dX6_bound_14 ?_
    refine p_callS (av := [.int _, .int _]) qS_RX6_68 rfl (Nat.le_of_ble_eq_true rfl) (Nat.le_of_ble_eq_true rfl) dX6_bound_15 (tX6_isUpTo (ok_b hF)) (fun r0 s4 hF => ?_)
    obtain ⟨r3, rfl, hF⟩ := hF
    refine p_if_ne (tgt := 24) dX6_bound_18 (by decide) (fun hc => ?_) (fun hc => ?_)
    · have hF := ok_f hc hF
      refine p_aload_n rfl dX6_bound_24 ?_
      refine p_getR (c1 := 2) qF_RX6_21 rfl rfl dX6_bound_25 ?_
      refine p_callV (c0 := 2) (av := []) qV_RX6_185 rfl rfl rfl rfl (Nat.le_of_ble_eq_true rfl) (Nat.le_of_ble_eq_true rfl) dX6_bound_28 (tX0_isBounded (by omega) (ok_b hF)) (fun r0 s6 hF => ?_)
      obtain ⟨r5, rfl, hF⟩ := hF
      refine p_if_eq (tgt := 50) dX6_bound_31 (by decide) (fun hc => ?_) (fun hc => ?_)
      · have hF := ok_t hc hF
        exact p_lv [] rfl (b_X6_bound_50 hd  _ hF)
      · have hF := ok_f hc hF
        refine p_iload_n rfl dX6_bound_34 ?_
        refine p_iconst (v := 1) (by decide) dX6_bound_35 ?_
        refine p_icmp_ne (tgt := 53) dX6_bound_36 (by decide) (fun hc => ?_) (fun hc => ?_)
        · have hF := ok_f hc hF
          exact p_lv [0, 1, 2] rfl (b_X6_bound_53 hd  _ _ _ hF)
        · have hF := ok_t hc hF
          refine p_aload_n rfl dX6_bound_39 ?_
          refine p_getR (c1 := 2) qF_RX6_21 rfl rfl dX6_bound_40 ?_
          refine p_getI qF_RX6_176 rfl rfl dX6_bound_43 ?_
          refine p_iconst (v := 2) (by decide) dX6_bound_46 ?_
          refine p_icmp_ne (tgt := 53) dX6_bound_47 (by decide) (fun hc => ?_) (fun hc => ?_)
          · have hF := ok_f hc hF
            exact p_lv [0, 1, 2] rfl (b_X6_bound_53 hd  _ _ _ hF)
          · have hF := ok_t hc hF
            exact p_lv [] rfl (b_X6_bound_50 hd  _ hF)
    · have hF := ok_t hc hF
      refine p_bipush (v := -2) (by decide) dX6_bound_21 ?_
      exact p_iret rfl dX6_bound_23 (ok_r (j := jI) hF)
  · have hF := ok_t hc hF
    refine p_iconst (v := -1) (by decide) dX6_bound_11 ?_
    exact p_iret rfl dX6_bound_12 (ok_r (j := jI) hF)
theorem tX6_seenOf {d : Nat} (hd : 3 ≤ d) {Q : Option Value → Hp → Prop} {a1 : Int32} {a2 : Int32} {a3 : Int32} {a4 : Int32} {sg : Hp} (hF : ok jI (fX6_seenOf a1 a2 a3 a4 sg) Q) : pw tC d mX6_seenOf 0 (lv_args 0 [.ref 0, .int a1, .int a2, .int a3, .int a4]) [] sg Q := by
  unfold fX6_seenOf at hF
  obtain ⟨d, rfl⟩ : ∃ e, d = e + 1 := ⟨d - 1, by omega⟩
  have hd : 2 ≤ d := by omega
  show pw _ _ _ _ [(0, .ref 0), (1, .int a1), (2, .int a2), (3, .int a3), (4, .int a4)] [] _ _
  refine p_aload_n rfl dX6_seenOf_0 ?_
  refine p_getR (c1 := 4) qF_RX6_35 rfl rfl dX6_seenOf_1 ?_
  refine p_iload_n rfl dX6_seenOf_4 ?_
  refine p_iload_n rfl dX6_seenOf_5 ?_
  refine p_iload_n rfl dX6_seenOf_6 ?_
  refine p_iload rfl dX6_seenOf_7 ?_
  refine p_aload_n rfl dX6_seenOf_9 ?_
  refine p_getR (c1 := 6) qF_RX6_46 rfl rfl dX6_seenOf_10 ?_
  refine p_callV (c0 := 4) (av := [.int _, .int _, .int _, .int _, .ref 6]) qV_RX6_103 rfl rfl rfl rfl (Nat.le_of_ble_eq_true rfl) (Nat.le_of_ble_eq_true rfl) dX6_seenOf_13 (tX3_take (by omega) (ok_b hF)) (fun r0 s2 hF => ?_)
  obtain ⟨r1, rfl, hF⟩ := hF
  refine p_istore (Nat.le_of_ble_eq_true rfl) rfl dX6_seenOf_16 ?_
  refine p_iload rfl dX6_seenOf_18 ?_
  refine p_if_eq (tgt := 26) dX6_seenOf_20 (by decide) (fun hc => ?_) (fun hc => ?_)
  · have hF := ok_t hc hF
    refine p_aload_n rfl dX6_seenOf_26 ?_
    refine p_iload rfl dX6_seenOf_27 ?_
    refine p_callV (c0 := 0) (av := [.int _]) qV_RX6_107 rfl rfl rfl rfl (Nat.le_of_ble_eq_true rfl) (Nat.le_of_ble_eq_true rfl) dX6_seenOf_29 (tX6_isRowOfSteps (by omega) (ok_b hF)) (fun r0 s4 hF => ?_)
    obtain ⟨r3, rfl, hF⟩ := hF
    refine p_if_ne (tgt := 38) dX6_seenOf_32 (by decide) (fun hc => ?_) (fun hc => ?_)
    · have hF := ok_f hc hF
      refine p_aload_n rfl dX6_seenOf_38 ?_
      refine p_getR (c1 := 3) qF_RX6_28 rfl rfl dX6_seenOf_39 ?_
      refine p_aload_n rfl dX6_seenOf_42 ?_
      refine p_getR (c1 := 6) qF_RX6_46 rfl rfl dX6_seenOf_43 ?_
      refine p_iload rfl dX6_seenOf_46 ?_
      refine p_callV (c0 := 3) (av := [.ref 6, .int _]) qV_RX6_256 rfl rfl rfl rfl (Nat.le_of_ble_eq_true rfl) (Nat.le_of_ble_eq_true rfl) dX6_seenOf_48 (tX2_replaceBy (ok_b hF)) (fun r0 s6 hF => ?_)
      obtain ⟨r5, rfl, hF⟩ := hF
      refine p_iload rfl dX6_seenOf_51 ?_
      exact p_iret rfl dX6_seenOf_53 (ok_r (j := jI) hF)
    · have hF := ok_t hc hF
      refine p_bipush (v := -2) (by decide) dX6_seenOf_35 ?_
      exact p_iret rfl dX6_seenOf_37 (ok_r (j := jI) hF)
  · have hF := ok_f hc hF
    refine p_iload rfl dX6_seenOf_23 ?_
    exact p_iret rfl dX6_seenOf_25 (ok_r (j := jI) hF)
theorem tX6_see {d : Nat} (hd : 4 ≤ d) {Q : Option Value → Hp → Prop} {a1 : Int32} {a2 : Int32} {a3 : Int32} {a4 : Int32} {sg : Hp} (hF : ok jI (fX6_see a1 a2 a3 a4 sg) Q) : pw tC d mX6_see 0 (lv_args 0 [.ref 0, .int a1, .int a2, .int a3, .int a4]) [] sg Q := by
  unfold fX6_see at hF
  obtain ⟨d, rfl⟩ : ∃ e, d = e + 1 := ⟨d - 1, by omega⟩
  have hd : 3 ≤ d := by omega
  show pw _ _ _ _ [(0, .ref 0), (1, .int a1), (2, .int a2), (3, .int a3), (4, .int a4)] [] _ _
  refine p_aload_n rfl dX6_see_0 ?_
  refine p_aload_n rfl dX6_see_1 ?_
  refine p_iload_n rfl dX6_see_2 ?_
  refine p_iload_n rfl dX6_see_3 ?_
  refine p_iload_n rfl dX6_see_4 ?_
  refine p_iload rfl dX6_see_5 ?_
  refine p_callV (c0 := 0) (av := [.int _, .int _, .int _, .int _]) qV_RX6_219 rfl rfl rfl rfl (Nat.le_of_ble_eq_true rfl) (Nat.le_of_ble_eq_true rfl) dX6_see_7 (tX6_seenOf (by omega) (ok_b hF)) (fun r0 s2 hF => ?_)
  obtain ⟨r1, rfl, hF⟩ := hF
  refine p_callV (c0 := 0) (av := [.int _]) qV_RX6_64 rfl rfl rfl rfl (Nat.le_of_ble_eq_true rfl) (Nat.le_of_ble_eq_true rfl) dX6_see_10 (tX6_ended (ok_b hF)) (fun r0 s4 hF => ?_)
  obtain ⟨r3, rfl, hF⟩ := hF
  exact p_iret rfl dX6_see_13 (ok_r (j := jI) hF)
theorem b_X6_keeps_71 {d : Nat} {Q : Option Value → Hp → Prop}  (vk0 : Int32) (sg : Hp) (hF : ok jI (B_X6_keeps_71  vk0 sg) Q) : pw tC (d + 1) mX6_keeps 71 [] [.int vk0] sg Q := by
  unfold B_X6_keeps_71 at hF
  exact p_iret rfl dX6_keeps_71 (ok_r (j := jI) hF)
theorem tX6_keeps {d : Nat} (hd : 1 ≤ d) {Q : Option Value → Hp → Prop} {a1 : Int32} {a2 : Int32} {sg : Hp} (hF : ok jI (fX6_keeps a1 a2 sg) Q) : pw tC d mX6_keeps 0 (lv_args 0 [.ref 0, .int a1, .int a2]) [] sg Q := by
  unfold fX6_keeps at hF
  obtain ⟨d, rfl⟩ : ∃ e, d = e + 1 := ⟨d - 1, by omega⟩
  show pw _ _ _ _ [(0, .ref 0), (1, .int a1), (2, .int a2)] [] _ _
  refine p_aload_n rfl dX6_keeps_0 ?_
  refine p_getR (c1 := 1) qF_RX6_12 rfl rfl dX6_keeps_1 ?_
  refine p_iload_n rfl dX6_keeps_4 ?_
  refine p_callV (c0 := 1) (av := [.int _]) qV_RX6_95 rfl rfl rfl rfl (Nat.le_of_ble_eq_true rfl) (Nat.le_of_ble_eq_true rfl) dX6_keeps_5 (tX4_has (ok_b hF)) (fun r0 s2 hF => ?_)
  obtain ⟨r1, rfl, hF⟩ := hF
  refine p_if_ne (tgt := 13) dX6_keeps_8 (by decide) (fun hc => ?_) (fun hc => ?_)
  · have hF := ok_f hc hF
    refine p_iload_n rfl dX6_keeps_13 ?_
    refine p_iconst (v := 1) (by decide) dX6_keeps_14 ?_
    refine p_callS (av := [.int _, .int _]) qS_RX6_68 rfl (Nat.le_of_ble_eq_true rfl) (Nat.le_of_ble_eq_true rfl) dX6_keeps_15 (tX6_isUpTo (ok_b hF)) (fun r0 s4 hF => ?_)
    obtain ⟨r3, rfl, hF⟩ := hF
    refine p_if_ne (tgt := 24) dX6_keeps_18 (by decide) (fun hc => ?_) (fun hc => ?_)
    · have hF := ok_f hc hF
      refine p_aload_n rfl dX6_keeps_24 ?_
      refine p_getR (c1 := 3) qF_RX6_28 rfl rfl dX6_keeps_25 ?_
      refine p_getI qF_RX6_222 rfl rfl dX6_keeps_28 ?_
      refine p_if_ne (tgt := 37) dX6_keeps_31 (by decide) (fun hc => ?_) (fun hc => ?_)
      · have hF := ok_f hc hF
        refine p_aload_n rfl dX6_keeps_37 ?_
        refine p_getR (c1 := 3) qF_RX6_28 rfl rfl dX6_keeps_38 ?_
        refine p_aload_n rfl dX6_keeps_41 ?_
        refine p_getR (c1 := 1) qF_RX6_12 rfl rfl dX6_keeps_42 ?_
        refine p_iload_n rfl dX6_keeps_45 ?_
        refine p_callV (c0 := 1) (av := [.int _]) qV_RX6_99 rfl rfl rfl rfl (Nat.le_of_ble_eq_true rfl) (Nat.le_of_ble_eq_true rfl) dX6_keeps_46 (tX4_row (ok_b hF)) (fun r0 s6 hF => ?_)
        obtain ⟨r5, rfl, hF⟩ := hF
        refine p_callV (c0 := 3) (av := [.ref _]) qV_RX6_225 rfl rfl rfl rfl (Nat.le_of_ble_eq_true rfl) (Nat.le_of_ble_eq_true rfl) dX6_keeps_49 (tX2_firstBreak (ok_b hF)) (fun r0 s8 hF => ?_)
        obtain ⟨r7, rfl, hF⟩ := hF
        refine p_istore_n (Nat.le_of_ble_eq_true rfl) rfl dX6_keeps_52 ?_
        refine p_iload_n rfl dX6_keeps_53 ?_
        refine p_iconst (v := 1) (by decide) dX6_keeps_54 ?_
        refine p_icmp_ne (tgt := 60) dX6_keeps_55 (by decide) (fun hc => ?_) (fun hc => ?_)
        · have hF := ok_f hc hF
          refine p_iload_n rfl dX6_keeps_60 ?_
          refine p_bipush (v := -9) (by decide) dX6_keeps_61 ?_
          refine p_icmp_ne (tgt := 70) dX6_keeps_63 (by decide) (fun hc => ?_) (fun hc => ?_)
          · have hF := ok_f hc hF
            refine p_iconst (v := 0) (by decide) dX6_keeps_70 ?_
            exact p_lv [] rfl (b_X6_keeps_71  _ _ hF)
          · have hF := ok_t hc hF
            refine p_iconst (v := 1) (by decide) dX6_keeps_66 ?_
            refine p_goto (tgt := 71) dX6_keeps_67 (by decide) ?_
            exact p_lv [] rfl (b_X6_keeps_71  _ _ hF)
        · have hF := ok_t hc hF
          refine p_iload_n rfl dX6_keeps_58 ?_
          exact p_iret rfl dX6_keeps_59 (ok_r (j := jI) hF)
      · have hF := ok_t hc hF
        refine p_bipush (v := -3) (by decide) dX6_keeps_34 ?_
        exact p_iret rfl dX6_keeps_36 (ok_r (j := jI) hF)
    · have hF := ok_t hc hF
      refine p_bipush (v := -2) (by decide) dX6_keeps_21 ?_
      exact p_iret rfl dX6_keeps_23 (ok_r (j := jI) hF)
  · have hF := ok_t hc hF
    refine p_iconst (v := -1) (by decide) dX6_keeps_11 ?_
    exact p_iret rfl dX6_keeps_12 (ok_r (j := jI) hF)
theorem tX6_burst {d : Nat} (hd : 2 ≤ d) {Q : Option Value → Hp → Prop} {a1 : Int32} {sg : Hp} (hF : ok jI (fX6_burst a1 sg) Q) : pw tC d mX6_burst 0 (lv_args 0 [.ref 0, .int a1]) [] sg Q := by
  unfold fX6_burst at hF
  obtain ⟨d, rfl⟩ : ∃ e, d = e + 1 := ⟨d - 1, by omega⟩
  have hd : 1 ≤ d := by omega
  show pw _ _ _ _ [(0, .ref 0), (1, .int a1)] [] _ _
  refine p_iload_n rfl dX6_burst_0 ?_
  refine p_sipush (v := 999) (by decide) dX6_burst_1 ?_
  refine p_callS (av := [.int _, .int _]) qS_RX6_68 rfl (Nat.le_of_ble_eq_true rfl) (Nat.le_of_ble_eq_true rfl) dX6_burst_4 (tX6_isUpTo (ok_b hF)) (fun r0 s2 hF => ?_)
  obtain ⟨r1, rfl, hF⟩ := hF
  refine p_if_ne (tgt := 13) dX6_burst_7 (by decide) (fun hc => ?_) (fun hc => ?_)
  · have hF := ok_f hc hF
    refine p_aload_n rfl dX6_burst_13 ?_
    refine p_getR (c1 := 3) qF_RX6_28 rfl rfl dX6_burst_14 ?_
    refine p_getI qF_RX6_222 rfl rfl dX6_burst_17 ?_
    refine p_if_ne (tgt := 26) dX6_burst_20 (by decide) (fun hc => ?_) (fun hc => ?_)
    · have hF := ok_f hc hF
      refine p_aload_n rfl dX6_burst_26 ?_
      refine p_getR (c1 := 3) qF_RX6_28 rfl rfl dX6_burst_27 ?_
      refine p_iload_n rfl dX6_burst_30 ?_
      refine p_callV (c0 := 3) (av := [.int _]) qV_RX6_229 rfl rfl rfl rfl (Nat.le_of_ble_eq_true rfl) (Nat.le_of_ble_eq_true rfl) dX6_burst_31 (tX2_leastBurst (by omega) (ok_b hF)) (fun r0 s4 hF => ?_)
      obtain ⟨r3, rfl, hF⟩ := hF
      exact p_iret rfl dX6_burst_34 (ok_r (j := jI) hF)
    · have hF := ok_t hc hF
      refine p_bipush (v := -3) (by decide) dX6_burst_23 ?_
      exact p_iret rfl dX6_burst_25 (ok_r (j := jI) hF)
  · have hF := ok_t hc hF
    refine p_bipush (v := -2) (by decide) dX6_burst_10 ?_
    exact p_iret rfl dX6_burst_12 (ok_r (j := jI) hF)
theorem b_X6_shape_113 {d : Nat} (hd : 2 ≤ d) {Q : Option Value → Hp → Prop}  (vk0 : Int32) (sg : Hp) (hF : ok jI (B_X6_shape_113  vk0 sg) Q) : pw tC (d + 1) mX6_shape 113 [] [.int vk0] sg Q := by
  unfold B_X6_shape_113 at hF
  exact p_iret rfl dX6_shape_113 (ok_r (j := jI) hF)
theorem b_X6_shape_47 {d : Nat} (hd : 2 ≤ d) {Q : Option Value → Hp → Prop}  (v1 : Int32) (v2 : Int32) (v3 : Int32) (sg : Hp) (hF : ok jI (B_X6_shape_47  v1 v2 v3 sg) Q) : pw tC (d + 1) mX6_shape 47 [(0, .ref 0), (1, .int v1), (2, .int v2), (3, .int v3)] [] sg Q := by
  unfold B_X6_shape_47 at hF
  refine p_aload_n rfl dX6_shape_47 ?_
  refine p_getR (c1 := 3) qF_RX6_28 rfl rfl dX6_shape_48 ?_
  refine p_getI qF_RX6_222 rfl rfl dX6_shape_51 ?_
  refine p_if_ne (tgt := 60) dX6_shape_54 (by decide) (fun hc => ?_) (fun hc => ?_)
  · have hF := ok_f hc hF
    refine p_aload_n rfl dX6_shape_60 ?_
    refine p_getR (c1 := 3) qF_RX6_28 rfl rfl dX6_shape_61 ?_
    refine p_aload_n rfl dX6_shape_64 ?_
    refine p_getR (c1 := 1) qF_RX6_12 rfl rfl dX6_shape_65 ?_
    refine p_iload_n rfl dX6_shape_68 ?_
    refine p_callV (c0 := 1) (av := [.int _]) qV_RX6_99 rfl rfl rfl rfl (Nat.le_of_ble_eq_true rfl) (Nat.le_of_ble_eq_true rfl) dX6_shape_69 (tX4_row (ok_b hF)) (fun r0 s4 hF => ?_)
    obtain ⟨r3, rfl, hF⟩ := hF
    refine p_callV (c0 := 3) (av := [.ref _]) qV_RX6_232 rfl rfl rfl rfl (Nat.le_of_ble_eq_true rfl) (Nat.le_of_ble_eq_true rfl) dX6_shape_72 (tX2_shapeBy (by omega) (ok_b hF)) (fun r0 s6 hF => ?_)
    obtain ⟨r5, rfl, hF⟩ := hF
    refine p_iload_n rfl dX6_shape_75 ?_
    refine p_if_eq (tgt := 92) dX6_shape_76 (by decide) (fun hc => ?_) (fun hc => ?_)
    · have hF := ok_t hc hF
      refine p_iload_n rfl dX6_shape_92 ?_
      refine p_if_ne (tgt := 106) dX6_shape_93 (by decide) (fun hc => ?_) (fun hc => ?_)
      · have hF := ok_f hc hF
        refine p_aload_n rfl dX6_shape_106 ?_
        refine p_getR (c1 := 3) qF_RX6_28 rfl rfl dX6_shape_107 ?_
        refine p_callV (c0 := 3) (av := []) qV_RX6_243 rfl rfl rfl rfl (Nat.le_of_ble_eq_true rfl) (Nat.le_of_ble_eq_true rfl) dX6_shape_110 (tX2_latestOfShaped (by omega) (ok_b hF)) (fun r0 s8 hF => ?_)
        obtain ⟨r7, rfl, hF⟩ := hF
        exact p_lv [] rfl (b_X6_shape_113 hd  _ _ hF)
      · have hF := ok_t hc hF
        refine p_aload_n rfl dX6_shape_96 ?_
        refine p_getR (c1 := 3) qF_RX6_28 rfl rfl dX6_shape_97 ?_
        refine p_callV (c0 := 3) (av := []) qV_RX6_239 rfl rfl rfl rfl (Nat.le_of_ble_eq_true rfl) (Nat.le_of_ble_eq_true rfl) dX6_shape_100 (tX2_mostHeld (by omega) (ok_b hF)) (fun r0 s10 hF => ?_)
        obtain ⟨r9, rfl, hF⟩ := hF
        refine p_goto (tgt := 113) dX6_shape_103 (by decide) ?_
        exact p_lv [] rfl (b_X6_shape_113 hd  _ _ hF)
    · have hF := ok_f hc hF
      refine p_aload_n rfl dX6_shape_79 ?_
      refine p_getR (c1 := 3) qF_RX6_28 rfl rfl dX6_shape_80 ?_
      refine p_getR (c1 := 23) qF_RX6_236 rfl rfl dX6_shape_83 ?_
      refine p_iload_n rfl dX6_shape_86 ?_
      refine p_bipush (v := 100) (by decide) dX6_shape_87 ?_
      refine p_isub dX6_shape_89 ?_
      obtain ⟨hg, hF⟩ := ok_g hF
      refine p_iald rfl (inb_in hg) dX6_shape_90 ?_
      exact p_iret rfl dX6_shape_91 (ok_r (j := jI) hF)
  · have hF := ok_t hc hF
    refine p_bipush (v := -3) (by decide) dX6_shape_57 ?_
    exact p_iret rfl dX6_shape_59 (ok_r (j := jI) hF)
theorem b_X6_shape_31 {d : Nat} (hd : 2 ≤ d) {Q : Option Value → Hp → Prop}  (v1 : Int32) (v2 : Int32) (vk0 : Int32) (sg : Hp) (hF : ok jI (B_X6_shape_31  v1 v2 vk0 sg) Q) : pw tC (d + 1) mX6_shape 31 [(0, .ref 0), (1, .int v1), (2, .int v2)] [.int vk0] sg Q := by
  unfold B_X6_shape_31 at hF
  refine p_istore_n (Nat.le_of_ble_eq_true rfl) rfl dX6_shape_31 ?_
  refine p_iload_n rfl dX6_shape_32 ?_
  refine p_if_ne (tgt := 47) dX6_shape_33 (by decide) (fun hc => ?_) (fun hc => ?_)
  · have hF := ok_f hc hF
    exact p_lv [0, 1, 2, 3] rfl (b_X6_shape_47 hd  _ _ _ _ hF)
  · have hF := ok_t hc hF
    refine p_iload_n rfl dX6_shape_36 ?_
    refine p_iconst (v := 1) (by decide) dX6_shape_37 ?_
    refine p_callS (av := [.int _, .int _]) qS_RX6_68 rfl (Nat.le_of_ble_eq_true rfl) (Nat.le_of_ble_eq_true rfl) dX6_shape_38 (tX6_isUpTo (ok_b hF)) (fun r0 s12 hF => ?_)
    obtain ⟨r11, rfl, hF⟩ := hF
    refine p_if_ne (tgt := 47) dX6_shape_41 (by decide) (fun hc => ?_) (fun hc => ?_)
    · have hF := ok_f hc hF
      exact p_lv [0, 1, 2, 3] rfl (b_X6_shape_47 hd  _ _ _ _ hF)
    · have hF := ok_t hc hF
      refine p_bipush (v := -2) (by decide) dX6_shape_44 ?_
      exact p_iret rfl dX6_shape_46 (ok_r (j := jI) hF)
theorem b_X6_shape_30 {d : Nat} (hd : 2 ≤ d) {Q : Option Value → Hp → Prop}  (v1 : Int32) (v2 : Int32) (sg : Hp) (hF : ok jI (B_X6_shape_30  v1 v2 sg) Q) : pw tC (d + 1) mX6_shape 30 [(0, .ref 0), (1, .int v1), (2, .int v2)] [] sg Q := by
  unfold B_X6_shape_30 at hF
  refine p_iconst (v := 0) (by decide) dX6_shape_30 ?_
  exact p_lv [0, 1, 2] rfl (b_X6_shape_31 hd  _ _ _ _ hF)
theorem tX6_shape {d : Nat} (hd : 3 ≤ d) {Q : Option Value → Hp → Prop} {a1 : Int32} {a2 : Int32} {sg : Hp} (hF : ok jI (fX6_shape a1 a2 sg) Q) : pw tC d mX6_shape 0 (lv_args 0 [.ref 0, .int a1, .int a2]) [] sg Q := by
  unfold fX6_shape at hF
  obtain ⟨d, rfl⟩ : ∃ e, d = e + 1 := ⟨d - 1, by omega⟩
  have hd : 2 ≤ d := by omega
  show pw _ _ _ _ [(0, .ref 0), (1, .int a1), (2, .int a2)] [] _ _
  refine p_aload_n rfl dX6_shape_0 ?_
  refine p_getR (c1 := 1) qF_RX6_12 rfl rfl dX6_shape_1 ?_
  refine p_iload_n rfl dX6_shape_4 ?_
  refine p_callV (c0 := 1) (av := [.int _]) qV_RX6_95 rfl rfl rfl rfl (Nat.le_of_ble_eq_true rfl) (Nat.le_of_ble_eq_true rfl) dX6_shape_5 (tX4_has (ok_b hF)) (fun r0 s2 hF => ?_)
  obtain ⟨r1, rfl, hF⟩ := hF
  refine p_if_ne (tgt := 13) dX6_shape_8 (by decide) (fun hc => ?_) (fun hc => ?_)
  · have hF := ok_f hc hF
    refine p_iload_n rfl dX6_shape_13 ?_
    refine p_bipush (v := 100) (by decide) dX6_shape_14 ?_
    refine p_icmp_lt (tgt := 30) dX6_shape_16 (by decide) (fun hc => ?_) (fun hc => ?_)
    · have hF := ok_t hc hF
      exact p_lv [0, 1, 2] rfl (b_X6_shape_30 hd  _ _ _ hF)
    · have hF := ok_f hc hF
      refine p_iload_n rfl dX6_shape_19 ?_
      refine p_sipush (v := 140) (by decide) dX6_shape_20 ?_
      refine p_icmp_gt (tgt := 30) dX6_shape_23 (by decide) (fun hc => ?_) (fun hc => ?_)
      · have hF := ok_t hc hF
        exact p_lv [0, 1, 2] rfl (b_X6_shape_30 hd  _ _ _ hF)
      · have hF := ok_f hc hF
        refine p_iconst (v := 1) (by decide) dX6_shape_26 ?_
        refine p_goto (tgt := 31) dX6_shape_27 (by decide) ?_
        exact p_lv [0, 1, 2] rfl (b_X6_shape_31 hd  _ _ _ _ hF)
  · have hF := ok_t hc hF
    refine p_iconst (v := -1) (by decide) dX6_shape_11 ?_
    exact p_iret rfl dX6_shape_12 (ok_r (j := jI) hF)
theorem b_X6_letIn_22 {d : Nat} (hd : 1 ≤ d) {Q : Option Value → Hp → Prop}   (sg : Hp) (hF : ok jI (B_X6_letIn_22   sg) Q) : pw tC (d + 1) mX6_letIn 22 [] [] sg Q := by
  unfold B_X6_letIn_22 at hF
  refine p_iconst (v := -1) (by decide) dX6_letIn_22 ?_
  exact p_iret rfl dX6_letIn_23 (ok_r (j := jI) hF)
theorem l_X6_letIn_47 {d : Nat} (hd : 1 ≤ d) {Q : Option Value → Hp → Prop} {k116 : Hp → Option (Int32 × Hp)} (hk116 : ∀ (s2 : Hp), ok jI (k116 s2) Q → pw tC (d + 1) mX6_letIn 116 [] [] s2 Q) {k105 : Int32 → Hp → Option (Int32 × Hp)} (hk105 : ∀ (z4 : Int32) (s2 : Hp), ok jI (k105 z4 s2) Q → pw tC (d + 1) mX6_letIn 105 [(4, .int z4)] [] s2 Q) : ∀ (n : Nat) (v1 : Int32) (v2 : Int32) (v3 : Int32) (v4 : Int32) (sg : Hp), ok jI (L_X6_letIn_47 k116 k105 n v1 v2 v3 v4 sg) Q → pw tC (d + 1) mX6_letIn 47 [(0, .ref 0), (1, .int v1), (2, .int v2), (3, .int v3), (4, .int v4)] [] sg Q := by
  intro n
  induction n with
  | zero =>
    intro v1 v2 v3 v4 sg hF
    obtain ⟨_, _, h9, _⟩ := hF
    cases h9
  | succ n ih =>
    intro v1 v2 v3 v4 sg hF
    refine p_iload rfl dX6_letIn_47 ?_
    refine p_bipush (v := 99) (by decide) dX6_letIn_49 ?_
    refine p_icmp_gt (tgt := 116) dX6_letIn_51 (by decide) (fun hc => ?_) (fun hc => ?_)
    · have hF := ok_t hc hF
      exact p_lv [] rfl (hk116 _ hF)
    · have hF := ok_f hc hF
      refine p_aload_n rfl dX6_letIn_54 ?_
      refine p_getR (c1 := 7) qF_RX6_50 rfl rfl dX6_letIn_55 ?_
      refine p_aload_n rfl dX6_letIn_58 ?_
      refine p_getR (c1 := 1) qF_RX6_12 rfl rfl dX6_letIn_59 ?_
      refine p_iload_n rfl dX6_letIn_62 ?_
      refine p_callV (c0 := 1) (av := [.int _]) qV_RX6_99 rfl rfl rfl rfl (Nat.le_of_ble_eq_true rfl) (Nat.le_of_ble_eq_true rfl) dX6_letIn_63 (tX4_row (ok_b hF)) (fun r0 s10 hF => ?_)
      obtain ⟨r9, rfl, hF⟩ := hF
      refine p_aload_n rfl dX6_letIn_66 ?_
      refine p_getR (c1 := 7) qF_RX6_50 rfl rfl dX6_letIn_67 ?_
      refine p_callS (av := [.ref 7, .ref _, .ref 7]) qS_RX6_252 rfl (Nat.le_of_ble_eq_true rfl) (Nat.le_of_ble_eq_true rfl) dX6_letIn_70 (tX1_fillSum (by omega) (ok_b hF)) (fun r0 s12 hF => ?_)
      obtain ⟨r11, rfl, hF⟩ := hF
      refine p_aload_n rfl dX6_letIn_73 ?_
      refine p_getR (c1 := 7) qF_RX6_50 rfl rfl dX6_letIn_74 ?_
      refine p_aload_n rfl dX6_letIn_77 ?_
      refine p_getR (c1 := 1) qF_RX6_12 rfl rfl dX6_letIn_78 ?_
      refine p_iload_n rfl dX6_letIn_81 ?_
      refine p_callV (c0 := 1) (av := [.int _]) qV_RX6_99 rfl rfl rfl rfl (Nat.le_of_ble_eq_true rfl) (Nat.le_of_ble_eq_true rfl) dX6_letIn_82 (tX4_row (ok_b hF)) (fun r0 s14 hF => ?_)
      obtain ⟨r13, rfl, hF⟩ := hF
      refine p_bipush (v := 20) (by decide) dX6_letIn_85 ?_
      refine p_callS (av := [.ref 7, .ref _, .int _]) qS_RX6_138 rfl (Nat.le_of_ble_eq_true rfl) (Nat.le_of_ble_eq_true rfl) dX6_letIn_87 (tX1_longestWait (by omega) (ok_b hF)) (fun r0 s16 hF => ?_)
      obtain ⟨r15, rfl, hF⟩ := hF
      refine p_istore (Nat.le_of_ble_eq_true rfl) rfl dX6_letIn_90 ?_
      refine p_iload rfl dX6_letIn_92 ?_
      refine p_bipush (v := -9) (by decide) dX6_letIn_94 ?_
      refine p_icmp_eq (tgt := 105) dX6_letIn_96 (by decide) (fun hc => ?_) (fun hc => ?_)
      · have hF := ok_t hc hF
        exact p_lv [4] rfl (hk105 _ _ hF)
      · have hF := ok_f hc hF
        refine p_iload rfl dX6_letIn_99 ?_
        refine p_iload_n rfl dX6_letIn_101 ?_
        refine p_icmp_le (tgt := 110) dX6_letIn_102 (by decide) (fun hc => ?_) (fun hc => ?_)
        · have hF := ok_t hc hF
          refine p_iinc (w := 1) (by decide) rfl (Nat.le_of_ble_eq_true rfl) rfl dX6_letIn_110 ?_
          refine p_goto (tgt := 47) dX6_letIn_113 (by decide) ?_
          exact p_lv [0, 1, 2, 3, 4] rfl (ih _ _ _ _ _ hF)
        · have hF := ok_f hc hF
          exact p_lv [4] rfl (hk105 _ _ hF)
theorem tX6_letIn {d : Nat} (hd : 2 ≤ d) {Q : Option Value → Hp → Prop} {a1 : Int32} {a2 : Int32} {a3 : Int32} {sg : Hp} (hF : ok jI (fX6_letIn a1 a2 a3 sg) Q) : pw tC d mX6_letIn 0 (lv_args 0 [.ref 0, .int a1, .int a2, .int a3]) [] sg Q := by
  unfold fX6_letIn at hF
  obtain ⟨d, rfl⟩ : ∃ e, d = e + 1 := ⟨d - 1, by omega⟩
  have hd : 1 ≤ d := by omega
  show pw _ _ _ _ [(0, .ref 0), (1, .int a1), (2, .int a2), (3, .int a3)] [] _ _
  refine p_aload_n rfl dX6_letIn_0 ?_
  refine p_getR (c1 := 1) qF_RX6_12 rfl rfl dX6_letIn_1 ?_
  refine p_iload_n rfl dX6_letIn_4 ?_
  refine p_callV (c0 := 1) (av := [.int _]) qV_RX6_95 rfl rfl rfl rfl (Nat.le_of_ble_eq_true rfl) (Nat.le_of_ble_eq_true rfl) dX6_letIn_5 (tX4_has (ok_b hF)) (fun r0 s2 hF => ?_)
  obtain ⟨r1, rfl, hF⟩ := hF
  refine p_if_eq (tgt := 22) dX6_letIn_8 (by decide) (fun hc => ?_) (fun hc => ?_)
  · have hF := ok_t hc hF
    exact p_lv [] rfl (b_X6_letIn_22 hd  _ hF)
  · have hF := ok_f hc hF
    refine p_aload_n rfl dX6_letIn_11 ?_
    refine p_getR (c1 := 1) qF_RX6_12 rfl rfl dX6_letIn_12 ?_
    refine p_iload_n rfl dX6_letIn_15 ?_
    refine p_callV (c0 := 1) (av := [.int _]) qV_RX6_95 rfl rfl rfl rfl (Nat.le_of_ble_eq_true rfl) (Nat.le_of_ble_eq_true rfl) dX6_letIn_16 (tX4_has (ok_b hF)) (fun r0 s4 hF => ?_)
    obtain ⟨r3, rfl, hF⟩ := hF
    refine p_if_ne (tgt := 24) dX6_letIn_19 (by decide) (fun hc => ?_) (fun hc => ?_)
    · have hF := ok_f hc hF
      refine p_iload_n rfl dX6_letIn_24 ?_
      refine p_bipush (v := 40) (by decide) dX6_letIn_25 ?_
      refine p_callS (av := [.int _, .int _]) qS_RX6_68 rfl (Nat.le_of_ble_eq_true rfl) (Nat.le_of_ble_eq_true rfl) dX6_letIn_27 (tX6_isUpTo (ok_b hF)) (fun r0 s6 hF => ?_)
      obtain ⟨r5, rfl, hF⟩ := hF
      refine p_if_ne (tgt := 36) dX6_letIn_30 (by decide) (fun hc => ?_) (fun hc => ?_)
      · have hF := ok_f hc hF
        refine p_aload_n rfl dX6_letIn_36 ?_
        refine p_getR (c1 := 7) qF_RX6_50 rfl rfl dX6_letIn_37 ?_
        refine p_iconst (v := 0) (by decide) dX6_letIn_40 ?_
        refine p_callS (av := [.ref 7, .int _]) qS_RX6_246 rfl (Nat.le_of_ble_eq_true rfl) (Nat.le_of_ble_eq_true rfl) dX6_letIn_41 (tJ7_fill_53178 (ok_b hF)) (fun r0 s8 hF => ?_)
        obtain ⟨r7, rfl, hF⟩ := hF
        refine p_iconst (v := 1) (by decide) dX6_letIn_44 ?_
        refine p_istore (Nat.le_of_ble_eq_true rfl) rfl dX6_letIn_45 ?_
        refine p_lv [0, 1, 2, 3, 4] rfl (l_X6_letIn_47 hd ?_ ?_ 200 _ _ _ _ _ hF)
        · intro s18 hF
          refine p_bipush (v := 99) (by decide) dX6_letIn_116 ?_
          exact p_iret rfl dX6_letIn_118 (ok_r (j := jI) hF)
        · intro w19_4 s20 hF
          refine p_iload rfl dX6_letIn_105 ?_
          refine p_iconst (v := 1) (by decide) dX6_letIn_107 ?_
          refine p_isub dX6_letIn_108 ?_
          exact p_iret rfl dX6_letIn_109 (ok_r (j := jI) hF)
      · have hF := ok_t hc hF
        refine p_bipush (v := -2) (by decide) dX6_letIn_33 ?_
        exact p_iret rfl dX6_letIn_35 (ok_r (j := jI) hF)
    · have hF := ok_t hc hF
      exact p_lv [] rfl (b_X6_letIn_22 hd  _ hF)
theorem tX6_sheet {d : Nat} (hd : 2 ≤ d) {Q : Option Value → Hp → Prop} {a1 : Int32} {a2 : Int32} {a3 : Int32} {sg : Hp} (hF : ok jI (fX6_sheet a1 a2 a3 sg) Q) : pw tC d mX6_sheet 0 (lv_args 0 [.ref 0, .int a1, .int a2, .int a3]) [] sg Q := by
  unfold fX6_sheet at hF
  obtain ⟨d, rfl⟩ : ∃ e, d = e + 1 := ⟨d - 1, by omega⟩
  have hd : 1 ≤ d := by omega
  show pw _ _ _ _ [(0, .ref 0), (1, .int a1), (2, .int a2), (3, .int a3)] [] _ _
  refine p_aload_n rfl dX6_sheet_0 ?_
  refine p_aload_n rfl dX6_sheet_1 ?_
  refine p_getR (c1 := 4) qF_RX6_35 rfl rfl dX6_sheet_2 ?_
  refine p_iload_n rfl dX6_sheet_5 ?_
  refine p_iload_n rfl dX6_sheet_6 ?_
  refine p_iload_n rfl dX6_sheet_7 ?_
  refine p_callV (c0 := 4) (av := [.int _, .int _, .int _]) qV_RX6_259 rfl rfl rfl rfl (Nat.le_of_ble_eq_true rfl) (Nat.le_of_ble_eq_true rfl) dX6_sheet_8 (tX3_renew (by omega) (ok_b hF)) (fun r0 s2 hF => ?_)
  obtain ⟨r1, rfl, hF⟩ := hF
  refine p_callV (c0 := 0) (av := [.int _]) qV_RX6_64 rfl rfl rfl rfl (Nat.le_of_ble_eq_true rfl) (Nat.le_of_ble_eq_true rfl) dX6_sheet_11 (tX6_ended (ok_b hF)) (fun r0 s4 hF => ?_)
  obtain ⟨r3, rfl, hF⟩ := hF
  exact p_iret rfl dX6_sheet_14 (ok_r (j := jI) hF)
theorem tX6_lose {d : Nat} (hd : 1 ≤ d) {Q : Option Value → Hp → Prop} {a1 : Int32} {sg : Hp} (hF : ok jI (fX6_lose a1 sg) Q) : pw tC d mX6_lose 0 (lv_args 0 [.ref 0, .int a1]) [] sg Q := by
  unfold fX6_lose at hF
  obtain ⟨d, rfl⟩ : ∃ e, d = e + 1 := ⟨d - 1, by omega⟩
  show pw _ _ _ _ [(0, .ref 0), (1, .int a1)] [] _ _
  refine p_aload_n rfl dX6_lose_0 ?_
  refine p_getR (c1 := 4) qF_RX6_35 rfl rfl dX6_lose_1 ?_
  refine p_iload_n rfl dX6_lose_4 ?_
  refine p_callV (c0 := 4) (av := [.int _]) qV_RX6_263 rfl rfl rfl rfl (Nat.le_of_ble_eq_true rfl) (Nat.le_of_ble_eq_true rfl) dX6_lose_5 (tX3_has (ok_b hF)) (fun r0 s2 hF => ?_)
  obtain ⟨r1, rfl, hF⟩ := hF
  refine p_if_ne (tgt := 13) dX6_lose_8 (by decide) (fun hc => ?_) (fun hc => ?_)
  · have hF := ok_f hc hF
    refine p_aload_n rfl dX6_lose_13 ?_
    refine p_getR (c1 := 4) qF_RX6_35 rfl rfl dX6_lose_14 ?_
    refine p_iload_n rfl dX6_lose_17 ?_
    refine p_callV (c0 := 4) (av := [.int _]) qV_RX6_264 rfl rfl rfl rfl (Nat.le_of_ble_eq_true rfl) (Nat.le_of_ble_eq_true rfl) dX6_lose_18 (tX3_drop (ok_b hF)) (fun r0 s4 hF => ?_)
    obtain ⟨r3, rfl, hF⟩ := hF
    exact p_iret rfl dX6_lose_21 (ok_r (j := jI) hF)
  · have hF := ok_t hc hF
    refine p_iconst (v := -1) (by decide) dX6_lose_11 ?_
    exact p_iret rfl dX6_lose_12 (ok_r (j := jI) hF)
theorem tX6_put {d : Nat} (hd : 2 ≤ d) {Q : Option Value → Hp → Prop} {a1 : Int32} {a2 : Int32} {a3 : Int32} {sg : Hp} (hF : ok jI (fX6_put a1 a2 a3 sg) Q) : pw tC d mX6_put 0 (lv_args 0 [.ref 0, .int a1, .int a2, .int a3]) [] sg Q := by
  unfold fX6_put at hF
  obtain ⟨d, rfl⟩ : ∃ e, d = e + 1 := ⟨d - 1, by omega⟩
  have hd : 1 ≤ d := by omega
  show pw _ _ _ _ [(0, .ref 0), (1, .int a1), (2, .int a2), (3, .int a3)] [] _ _
  refine p_aload_n rfl dX6_put_0 ?_
  refine p_aload_n rfl dX6_put_1 ?_
  refine p_getR (c1 := 4) qF_RX6_35 rfl rfl dX6_put_2 ?_
  refine p_iload_n rfl dX6_put_5 ?_
  refine p_iload_n rfl dX6_put_6 ?_
  refine p_iload_n rfl dX6_put_7 ?_
  refine p_callV (c0 := 4) (av := [.int _, .int _, .int _]) qV_RX6_267 rfl rfl rfl rfl (Nat.le_of_ble_eq_true rfl) (Nat.le_of_ble_eq_true rfl) dX6_put_8 (tX3_write (by omega) (ok_b hF)) (fun r0 s2 hF => ?_)
  obtain ⟨r1, rfl, hF⟩ := hF
  refine p_callV (c0 := 0) (av := [.int _]) qV_RX6_64 rfl rfl rfl rfl (Nat.le_of_ble_eq_true rfl) (Nat.le_of_ble_eq_true rfl) dX6_put_11 (tX6_ended (ok_b hF)) (fun r0 s4 hF => ?_)
  obtain ⟨r3, rfl, hF⟩ := hF
  exact p_iret rfl dX6_put_14 (ok_r (j := jI) hF)
theorem b_X6_cell_39 {d : Nat} (hd : 2 ≤ d) {Q : Option Value → Hp → Prop}  (vk0 : Int64) (sg : Hp) (hF : ok jL (B_X6_cell_39  vk0 sg) Q) : pw tC (d + 1) mX6_cell 39 [] [.long vk0] sg Q := by
  unfold B_X6_cell_39 at hF
  exact p_lret rfl dX6_cell_39 (ok_r (j := jL) hF)
theorem tX6_cell {d : Nat} (hd : 3 ≤ d) {Q : Option Value → Hp → Prop} {a1 : Int32} {a2 : Int32} {a3 : Int32} {sg : Hp} (hF : ok jL (fX6_cell a1 a2 a3 sg) Q) : pw tC d mX6_cell 0 (lv_args 0 [.ref 0, .int a1, .int a2, .int a3]) [] sg Q := by
  unfold fX6_cell at hF
  obtain ⟨d, rfl⟩ : ∃ e, d = e + 1 := ⟨d - 1, by omega⟩
  have hd : 2 ≤ d := by omega
  show pw _ _ _ _ [(0, .ref 0), (1, .int a1), (2, .int a2), (3, .int a3)] [] _ _
  refine p_aload_n rfl dX6_cell_0 ?_
  refine p_aload_n rfl dX6_cell_1 ?_
  refine p_getR (c1 := 4) qF_RX6_35 rfl rfl dX6_cell_2 ?_
  refine p_iload_n rfl dX6_cell_5 ?_
  refine p_iload_n rfl dX6_cell_6 ?_
  refine p_iload_n rfl dX6_cell_7 ?_
  refine p_callV (c0 := 4) (av := [.int _, .int _, .int _]) qV_RX6_270 rfl rfl rfl rfl (Nat.le_of_ble_eq_true rfl) (Nat.le_of_ble_eq_true rfl) dX6_cell_8 (tX3_whyUnread (by omega) (ok_b hF)) (fun r0 s2 hF => ?_)
  obtain ⟨r1, rfl, hF⟩ := hF
  refine p_callV (c0 := 0) (av := [.int _]) qV_RX6_64 rfl rfl rfl rfl (Nat.le_of_ble_eq_true rfl) (Nat.le_of_ble_eq_true rfl) dX6_cell_11 (tX6_ended (ok_b hF)) (fun r0 s4 hF => ?_)
  obtain ⟨r3, rfl, hF⟩ := hF
  refine p_istore (Nat.le_of_ble_eq_true rfl) rfl dX6_cell_14 ?_
  refine p_iload rfl dX6_cell_16 ?_
  refine p_if_ne (tgt := 36) dX6_cell_18 (by decide) (fun hc => ?_) (fun hc => ?_)
  · have hF := ok_f hc hF
    refine p_ldc2 wd_705 dX6_cell_36 ?_
    exact p_lv [] rfl (b_X6_cell_39 hd  _ _ hF)
  · have hF := ok_t hc hF
    refine p_aload_n rfl dX6_cell_21 ?_
    refine p_getR (c1 := 4) qF_RX6_35 rfl rfl dX6_cell_22 ?_
    refine p_getR (c1 := 24) qF_RX6_273 rfl rfl dX6_cell_25 ?_
    refine p_iload_n rfl dX6_cell_28 ?_
    obtain ⟨hg, hF⟩ := ok_g hF
    refine p_aald rfl (inb_in hg) dX6_cell_29 ?_
    refine p_iload_n rfl dX6_cell_30 ?_
    obtain ⟨hg, hF⟩ := ok_g hF
    refine p_iald (isA_in hg) (inb_in hg) dX6_cell_31 ?_
    refine p_i2l dX6_cell_32 ?_
    refine p_goto (tgt := 39) dX6_cell_33 (by decide) ?_
    exact p_lv [] rfl (b_X6_cell_39 hd  _ _ hF)
theorem tX6_copy {d : Nat} (hd : 2 ≤ d) {Q : Option Value → Hp → Prop} {a1 : Int32} {a2 : Int32} {a3 : Int32} {a4 : Int32} {a5 : Int32} {sg : Hp} (hF : ok jI (fX6_copy a1 a2 a3 a4 a5 sg) Q) : pw tC d mX6_copy 0 (lv_args 0 [.ref 0, .int a1, .int a2, .int a3, .int a4, .int a5]) [] sg Q := by
  unfold fX6_copy at hF
  obtain ⟨d, rfl⟩ : ∃ e, d = e + 1 := ⟨d - 1, by omega⟩
  have hd : 1 ≤ d := by omega
  show pw _ _ _ _ [(0, .ref 0), (1, .int a1), (2, .int a2), (3, .int a3), (4, .int a4), (5, .int a5)] [] _ _
  refine p_aload_n rfl dX6_copy_0 ?_
  refine p_aload_n rfl dX6_copy_1 ?_
  refine p_getR (c1 := 4) qF_RX6_35 rfl rfl dX6_copy_2 ?_
  refine p_iload_n rfl dX6_copy_5 ?_
  refine p_iload_n rfl dX6_copy_6 ?_
  refine p_iload_n rfl dX6_copy_7 ?_
  refine p_iload rfl dX6_copy_8 ?_
  refine p_iload rfl dX6_copy_10 ?_
  refine p_callV (c0 := 4) (av := [.int _, .int _, .int _, .int _, .int _]) qV_RX6_278 rfl rfl rfl rfl (Nat.le_of_ble_eq_true rfl) (Nat.le_of_ble_eq_true rfl) dX6_copy_12 (tX3_bring (by omega) (ok_b hF)) (fun r0 s2 hF => ?_)
  obtain ⟨r1, rfl, hF⟩ := hF
  refine p_callV (c0 := 0) (av := [.int _]) qV_RX6_64 rfl rfl rfl rfl (Nat.le_of_ble_eq_true rfl) (Nat.le_of_ble_eq_true rfl) dX6_copy_15 (tX6_ended (ok_b hF)) (fun r0 s4 hF => ?_)
  obtain ⟨r3, rfl, hF⟩ := hF
  exact p_iret rfl dX6_copy_18 (ok_r (j := jI) hF)
theorem tX6_leaveInTrace {d : Nat} {Q : Option Value → Hp → Prop} {a1 : Int32} {sg : Hp} (hF : ok jV (fX6_leaveInTrace a1 sg) Q) : pw tC d mX6_leaveInTrace 0 (lv_args 0 [.ref 0, .int a1]) [] sg Q := by
  unfold fX6_leaveInTrace at hF
  show pw _ _ _ _ [(0, .ref 0), (1, .int a1)] [] _ _
  refine p_aload_n rfl dX6_leaveInTrace_0 ?_
  refine p_bipush (v := 31) (by decide) dX6_leaveInTrace_1 ?_
  refine p_aload_n rfl dX6_leaveInTrace_3 ?_
  refine p_getI qF_RX6_53 rfl rfl dX6_leaveInTrace_4 ?_
  refine p_imul dX6_leaveInTrace_7 ?_
  refine p_iload_n rfl dX6_leaveInTrace_8 ?_
  refine p_iadd dX6_leaveInTrace_9 ?_
  refine p_put qF_RX6_53 qP_5_7 rfl rfl rfl rfl dX6_leaveInTrace_10 ?_
  exact p_vret rfl dX6_leaveInTrace_13 (ok_r (j := jV) hF)
theorem tX6_toldBySteps {d : Nat} (hd : 1 ≤ d) {Q : Option Value → Hp → Prop} {a1 : Int32} {sg : Hp} (hF : ok jI (fX6_toldBySteps a1 sg) Q) : pw tC d mX6_toldBySteps 0 (lv_args 0 [.ref 0, .int a1]) [] sg Q := by
  unfold fX6_toldBySteps at hF
  obtain ⟨d, rfl⟩ : ∃ e, d = e + 1 := ⟨d - 1, by omega⟩
  show pw _ _ _ _ [(0, .ref 0), (1, .int a1)] [] _ _
  refine p_aload_n rfl dX6_toldBySteps_0 ?_
  refine p_iconst (v := 1) (by decide) dX6_toldBySteps_1 ?_
  refine p_callV (c0 := 0) (av := [.int _]) qV_RX6_293 rfl rfl rfl rfl (Nat.le_of_ble_eq_true rfl) (Nat.le_of_ble_eq_true rfl) dX6_toldBySteps_2 (tX6_leaveInTrace (ok_b hF)) (fun r0 s2 hF => ?_)
  obtain ⟨r1, rfl, hF⟩ := hF
  refine p_aload_n rfl dX6_toldBySteps_5 ?_
  refine p_getR (c1 := 1) qF_RX6_12 rfl rfl dX6_toldBySteps_6 ?_
  refine p_iload_n rfl dX6_toldBySteps_9 ?_
  refine p_callV (c0 := 1) (av := [.int _]) qV_RX6_99 rfl rfl rfl rfl (Nat.le_of_ble_eq_true rfl) (Nat.le_of_ble_eq_true rfl) dX6_toldBySteps_10 (tX4_row (ok_b hF)) (fun r0 s4 hF => ?_)
  obtain ⟨r3, rfl, hF⟩ := hF
  refine p_bipush (v := 10) (by decide) dX6_toldBySteps_13 ?_
  obtain ⟨hg, hF⟩ := ok_g hF
  refine p_iald (isA_in hg) (inb_in hg) dX6_toldBySteps_15 ?_
  exact p_iret rfl dX6_toldBySteps_16 (ok_r (j := jI) hF)
theorem tX6_toldByBucket {d : Nat} (hd : 2 ≤ d) {Q : Option Value → Hp → Prop} {a1 : Int32} {sg : Hp} (hF : ok jI (fX6_toldByBucket a1 sg) Q) : pw tC d mX6_toldByBucket 0 (lv_args 0 [.ref 0, .int a1]) [] sg Q := by
  unfold fX6_toldByBucket at hF
  obtain ⟨d, rfl⟩ : ∃ e, d = e + 1 := ⟨d - 1, by omega⟩
  have hd : 1 ≤ d := by omega
  show pw _ _ _ _ [(0, .ref 0), (1, .int a1)] [] _ _
  refine p_aload_n rfl dX6_toldByBucket_0 ?_
  refine p_iconst (v := 2) (by decide) dX6_toldByBucket_1 ?_
  refine p_callV (c0 := 0) (av := [.int _]) qV_RX6_293 rfl rfl rfl rfl (Nat.le_of_ble_eq_true rfl) (Nat.le_of_ble_eq_true rfl) dX6_toldByBucket_2 (tX6_leaveInTrace (ok_b hF)) (fun r0 s2 hF => ?_)
  obtain ⟨r1, rfl, hF⟩ := hF
  refine p_aload_n rfl dX6_toldByBucket_5 ?_
  refine p_iload_n rfl dX6_toldByBucket_6 ?_
  refine p_callV (c0 := 0) (av := [.int _]) qV_RX6_290 rfl rfl rfl rfl (Nat.le_of_ble_eq_true rfl) (Nat.le_of_ble_eq_true rfl) dX6_toldByBucket_7 (tX6_toldBySteps (by omega) (ok_b hF)) (fun r0 s4 hF => ?_)
  obtain ⟨r3, rfl, hF⟩ := hF
  refine p_ldcw wd_734 dX6_toldByBucket_10 ?_
  refine p_iadd dX6_toldByBucket_13 ?_
  exact p_iret rfl dX6_toldByBucket_14 (ok_r (j := jI) hF)
theorem tX6_toldByLate {d : Nat} (hd : 3 ≤ d) {Q : Option Value → Hp → Prop} {a1 : Int32} {sg : Hp} (hF : ok jI (fX6_toldByLate a1 sg) Q) : pw tC d mX6_toldByLate 0 (lv_args 0 [.ref 0, .int a1]) [] sg Q := by
  unfold fX6_toldByLate at hF
  obtain ⟨d, rfl⟩ : ∃ e, d = e + 1 := ⟨d - 1, by omega⟩
  have hd : 2 ≤ d := by omega
  show pw _ _ _ _ [(0, .ref 0), (1, .int a1)] [] _ _
  refine p_aload_n rfl dX6_toldByLate_0 ?_
  refine p_iconst (v := 3) (by decide) dX6_toldByLate_1 ?_
  refine p_callV (c0 := 0) (av := [.int _]) qV_RX6_293 rfl rfl rfl rfl (Nat.le_of_ble_eq_true rfl) (Nat.le_of_ble_eq_true rfl) dX6_toldByLate_2 (tX6_leaveInTrace (ok_b hF)) (fun r0 s2 hF => ?_)
  obtain ⟨r1, rfl, hF⟩ := hF
  refine p_aload_n rfl dX6_toldByLate_5 ?_
  refine p_iload_n rfl dX6_toldByLate_6 ?_
  refine p_callV (c0 := 0) (av := [.int _]) qV_RX6_287 rfl rfl rfl rfl (Nat.le_of_ble_eq_true rfl) (Nat.le_of_ble_eq_true rfl) dX6_toldByLate_7 (tX6_toldByBucket (by omega) (ok_b hF)) (fun r0 s4 hF => ?_)
  obtain ⟨r3, rfl, hF⟩ := hF
  refine p_istore_n (Nat.le_of_ble_eq_true rfl) rfl dX6_toldByLate_10 ?_
  refine p_iload_n rfl dX6_toldByLate_11 ?_
  refine p_aload_n rfl dX6_toldByLate_12 ?_
  refine p_iload_n rfl dX6_toldByLate_13 ?_
  refine p_callV (c0 := 0) (av := [.int _]) qV_RX6_290 rfl rfl rfl rfl (Nat.le_of_ble_eq_true rfl) (Nat.le_of_ble_eq_true rfl) dX6_toldByLate_14 (tX6_toldBySteps (by omega) (ok_b hF)) (fun r0 s6 hF => ?_)
  obtain ⟨r5, rfl, hF⟩ := hF
  refine p_iadd dX6_toldByLate_17 ?_
  exact p_iret rfl dX6_toldByLate_18 (ok_r (j := jI) hF)
theorem b_X6_tell_52 {d : Nat} (hd : 3 ≤ d) {Q : Option Value → Hp → Prop}  (vk0 : Int32) (sg : Hp) (hF : ok jI (B_X6_tell_52  vk0 sg) Q) : pw tC (d + 1) mX6_tell 52 [] [.int vk0] sg Q := by
  unfold B_X6_tell_52 at hF
  exact p_iret rfl dX6_tell_52 (ok_r (j := jI) hF)
theorem tX6_tell {d : Nat} (hd : 4 ≤ d) {Q : Option Value → Hp → Prop} {a1 : Int32} {sg : Hp} (hF : ok jI (fX6_tell a1 sg) Q) : pw tC d mX6_tell 0 (lv_args 0 [.ref 0, .int a1]) [] sg Q := by
  unfold fX6_tell at hF
  obtain ⟨d, rfl⟩ : ∃ e, d = e + 1 := ⟨d - 1, by omega⟩
  have hd : 3 ≤ d := by omega
  show pw _ _ _ _ [(0, .ref 0), (1, .int a1)] [] _ _
  refine p_aload_n rfl dX6_tell_0 ?_
  refine p_getR (c1 := 1) qF_RX6_12 rfl rfl dX6_tell_1 ?_
  refine p_iload_n rfl dX6_tell_4 ?_
  refine p_callV (c0 := 1) (av := [.int _]) qV_RX6_95 rfl rfl rfl rfl (Nat.le_of_ble_eq_true rfl) (Nat.le_of_ble_eq_true rfl) dX6_tell_5 (tX4_has (ok_b hF)) (fun r0 s2 hF => ?_)
  obtain ⟨r1, rfl, hF⟩ := hF
  refine p_if_ne (tgt := 13) dX6_tell_8 (by decide) (fun hc => ?_) (fun hc => ?_)
  · have hF := ok_f hc hF
    refine p_aload_n rfl dX6_tell_13 ?_
    refine p_getR (c1 := 1) qF_RX6_12 rfl rfl dX6_tell_14 ?_
    refine p_getR (c1 := 9) qF_RX6_281 rfl rfl dX6_tell_17 ?_
    refine p_iload_n rfl dX6_tell_20 ?_
    obtain ⟨hg, hF⟩ := ok_g hF
    refine p_iald rfl (inb_in hg) dX6_tell_21 ?_
    refine p_istore_n (Nat.le_of_ble_eq_true rfl) rfl dX6_tell_22 ?_
    refine p_iload_n rfl dX6_tell_23 ?_
    refine p_iconst (v := 2) (by decide) dX6_tell_24 ?_
    refine p_icmp_ne (tgt := 34) dX6_tell_25 (by decide) (fun hc => ?_) (fun hc => ?_)
    · have hF := ok_f hc hF
      refine p_iload_n rfl dX6_tell_34 ?_
      refine p_iconst (v := 1) (by decide) dX6_tell_35 ?_
      refine p_icmp_ne (tgt := 47) dX6_tell_36 (by decide) (fun hc => ?_) (fun hc => ?_)
      · have hF := ok_f hc hF
        refine p_aload_n rfl dX6_tell_47 ?_
        refine p_iload_n rfl dX6_tell_48 ?_
        refine p_callV (c0 := 0) (av := [.int _]) qV_RX6_290 rfl rfl rfl rfl (Nat.le_of_ble_eq_true rfl) (Nat.le_of_ble_eq_true rfl) dX6_tell_49 (tX6_toldBySteps (by omega) (ok_b hF)) (fun r0 s4 hF => ?_)
        obtain ⟨r3, rfl, hF⟩ := hF
        exact p_lv [] rfl (b_X6_tell_52 hd  _ _ hF)
      · have hF := ok_t hc hF
        refine p_aload_n rfl dX6_tell_39 ?_
        refine p_iload_n rfl dX6_tell_40 ?_
        refine p_callV (c0 := 0) (av := [.int _]) qV_RX6_287 rfl rfl rfl rfl (Nat.le_of_ble_eq_true rfl) (Nat.le_of_ble_eq_true rfl) dX6_tell_41 (tX6_toldByBucket (by omega) (ok_b hF)) (fun r0 s6 hF => ?_)
        obtain ⟨r5, rfl, hF⟩ := hF
        refine p_goto (tgt := 52) dX6_tell_44 (by decide) ?_
        exact p_lv [] rfl (b_X6_tell_52 hd  _ _ hF)
    · have hF := ok_t hc hF
      refine p_aload_n rfl dX6_tell_28 ?_
      refine p_iload_n rfl dX6_tell_29 ?_
      refine p_callV (c0 := 0) (av := [.int _]) qV_RX6_284 rfl rfl rfl rfl (Nat.le_of_ble_eq_true rfl) (Nat.le_of_ble_eq_true rfl) dX6_tell_30 (tX6_toldByLate (by omega) (ok_b hF)) (fun r0 s8 hF => ?_)
      obtain ⟨r7, rfl, hF⟩ := hF
      exact p_iret rfl dX6_tell_33 (ok_r (j := jI) hF)
  · have hF := ok_t hc hF
    refine p_iconst (v := -1) (by decide) dX6_tell_11 ?_
    exact p_iret rfl dX6_tell_12 (ok_r (j := jI) hF)
theorem tX6_draw {d : Nat} (hd : 1 ≤ d) {Q : Option Value → Hp → Prop} {a1 : Int32} {sg : Hp} (hF : ok jI (fX6_draw a1 sg) Q) : pw tC d mX6_draw 0 (lv_args 0 [.ref 0, .int a1]) [] sg Q := by
  unfold fX6_draw at hF
  obtain ⟨d, rfl⟩ : ∃ e, d = e + 1 := ⟨d - 1, by omega⟩
  show pw _ _ _ _ [(0, .ref 0), (1, .int a1)] [] _ _
  refine p_aload_n rfl dX6_draw_0 ?_
  refine p_getR (c1 := 1) qF_RX6_12 rfl rfl dX6_draw_1 ?_
  refine p_iload_n rfl dX6_draw_4 ?_
  refine p_callV (c0 := 1) (av := [.int _]) qV_RX6_95 rfl rfl rfl rfl (Nat.le_of_ble_eq_true rfl) (Nat.le_of_ble_eq_true rfl) dX6_draw_5 (tX4_has (ok_b hF)) (fun r0 s2 hF => ?_)
  obtain ⟨r1, rfl, hF⟩ := hF
  refine p_if_ne (tgt := 13) dX6_draw_8 (by decide) (fun hc => ?_) (fun hc => ?_)
  · have hF := ok_f hc hF
    refine p_aload_n rfl dX6_draw_13 ?_
    refine p_getR (c1 := 1) qF_RX6_12 rfl rfl dX6_draw_14 ?_
    refine p_getR (c1 := 9) qF_RX6_281 rfl rfl dX6_draw_17 ?_
    refine p_iload_n rfl dX6_draw_20 ?_
    obtain ⟨hg, hF⟩ := ok_g hF
    refine p_iald rfl (inb_in hg) dX6_draw_21 ?_
    refine p_iconst (v := 2) (by decide) dX6_draw_22 ?_
    refine p_icmp_ne (tgt := 34) dX6_draw_23 (by decide) (fun hc => ?_) (fun hc => ?_)
    · have hF := ok_f hc hF
      refine p_aload_n rfl dX6_draw_34 ?_
      refine p_iconst (v := 4) (by decide) dX6_draw_35 ?_
      refine p_callV (c0 := 0) (av := [.int _]) qV_RX6_293 rfl rfl rfl rfl (Nat.le_of_ble_eq_true rfl) (Nat.le_of_ble_eq_true rfl) dX6_draw_36 (tX6_leaveInTrace (ok_b hF)) (fun r0 s4 hF => ?_)
      obtain ⟨r3, rfl, hF⟩ := hF
      refine p_iload_n rfl dX6_draw_39 ?_
      exact p_iret rfl dX6_draw_40 (ok_r (j := jI) hF)
    · have hF := ok_t hc hF
      refine p_aload_n rfl dX6_draw_26 ?_
      refine p_iconst (v := 5) (by decide) dX6_draw_27 ?_
      refine p_callV (c0 := 0) (av := [.int _]) qV_RX6_293 rfl rfl rfl rfl (Nat.le_of_ble_eq_true rfl) (Nat.le_of_ble_eq_true rfl) dX6_draw_28 (tX6_leaveInTrace (ok_b hF)) (fun r0 s6 hF => ?_)
      obtain ⟨r5, rfl, hF⟩ := hF
      refine p_bipush (v := 60) (by decide) dX6_draw_31 ?_
      exact p_iret rfl dX6_draw_33 (ok_r (j := jI) hF)
  · have hF := ok_t hc hF
    refine p_iconst (v := -1) (by decide) dX6_draw_11 ?_
    exact p_iret rfl dX6_draw_12 (ok_r (j := jI) hF)
theorem b_X6_takenAs_43 {d : Nat} {Q : Option Value → Hp → Prop}  (vk0 : Int32) (sg : Hp) (hF : ok jI (B_X6_takenAs_43  vk0 sg) Q) : pw tC (d + 1) mX6_takenAs 43 [] [.int vk0] sg Q := by
  unfold B_X6_takenAs_43 at hF
  exact p_iret rfl dX6_takenAs_43 (ok_r (j := jI) hF)
theorem tX6_takenAs {d : Nat} (hd : 1 ≤ d) {Q : Option Value → Hp → Prop} {a1 : Int32} {a2 : Int32} {sg : Hp} (hF : ok jI (fX6_takenAs a1 a2 sg) Q) : pw tC d mX6_takenAs 0 (lv_args 0 [.ref 0, .int a1, .int a2]) [] sg Q := by
  unfold fX6_takenAs at hF
  obtain ⟨d, rfl⟩ : ∃ e, d = e + 1 := ⟨d - 1, by omega⟩
  show pw _ _ _ _ [(0, .ref 0), (1, .int a1), (2, .int a2)] [] _ _
  refine p_aload_n rfl dX6_takenAs_0 ?_
  refine p_getR (c1 := 1) qF_RX6_12 rfl rfl dX6_takenAs_1 ?_
  refine p_iload_n rfl dX6_takenAs_4 ?_
  refine p_callV (c0 := 1) (av := [.int _]) qV_RX6_95 rfl rfl rfl rfl (Nat.le_of_ble_eq_true rfl) (Nat.le_of_ble_eq_true rfl) dX6_takenAs_5 (tX4_has (ok_b hF)) (fun r0 s2 hF => ?_)
  obtain ⟨r1, rfl, hF⟩ := hF
  refine p_if_ne (tgt := 13) dX6_takenAs_8 (by decide) (fun hc => ?_) (fun hc => ?_)
  · have hF := ok_f hc hF
    refine p_iload_n rfl dX6_takenAs_13 ?_
    refine p_iconst (v := 2) (by decide) dX6_takenAs_14 ?_
    refine p_callS (av := [.int _, .int _]) qS_RX6_68 rfl (Nat.le_of_ble_eq_true rfl) (Nat.le_of_ble_eq_true rfl) dX6_takenAs_15 (tX6_isUpTo (ok_b hF)) (fun r0 s4 hF => ?_)
    obtain ⟨r3, rfl, hF⟩ := hF
    refine p_if_ne (tgt := 24) dX6_takenAs_18 (by decide) (fun hc => ?_) (fun hc => ?_)
    · have hF := ok_f hc hF
      refine p_aload_n rfl dX6_takenAs_24 ?_
      refine p_getR (c1 := 1) qF_RX6_12 rfl rfl dX6_takenAs_25 ?_
      refine p_getR (c1 := 9) qF_RX6_281 rfl rfl dX6_takenAs_28 ?_
      refine p_iload_n rfl dX6_takenAs_31 ?_
      obtain ⟨hg, hF⟩ := ok_g hF
      refine p_iald rfl (inb_in hg) dX6_takenAs_32 ?_
      refine p_iload_n rfl dX6_takenAs_33 ?_
      refine p_icmp_lt (tgt := 41) dX6_takenAs_34 (by decide) (fun hc => ?_) (fun hc => ?_)
      · have hF := ok_t hc hF
        refine p_bipush (v := -12) (by decide) dX6_takenAs_41 ?_
        exact p_lv [] rfl (b_X6_takenAs_43  _ _ hF)
      · have hF := ok_f hc hF
        refine p_iconst (v := 1) (by decide) dX6_takenAs_37 ?_
        refine p_goto (tgt := 43) dX6_takenAs_38 (by decide) ?_
        exact p_lv [] rfl (b_X6_takenAs_43  _ _ hF)
    · have hF := ok_t hc hF
      refine p_bipush (v := -2) (by decide) dX6_takenAs_21 ?_
      exact p_iret rfl dX6_takenAs_23 (ok_r (j := jI) hF)
  · have hF := ok_t hc hF
    refine p_iconst (v := -1) (by decide) dX6_takenAs_11 ?_
    exact p_iret rfl dX6_takenAs_12 (ok_r (j := jI) hF)
theorem tX6_as {d : Nat} (hd : 2 ≤ d) {Q : Option Value → Hp → Prop} {a1 : Int32} {a2 : Int32} {sg : Hp} (hF : ok jI (fX6_as a1 a2 sg) Q) : pw tC d mX6_as 0 (lv_args 0 [.ref 0, .int a1, .int a2]) [] sg Q := by
  unfold fX6_as at hF
  obtain ⟨d, rfl⟩ : ∃ e, d = e + 1 := ⟨d - 1, by omega⟩
  have hd : 1 ≤ d := by omega
  show pw _ _ _ _ [(0, .ref 0), (1, .int a1), (2, .int a2)] [] _ _
  refine p_aload_n rfl dX6_as_0 ?_
  refine p_aload_n rfl dX6_as_1 ?_
  refine p_iload_n rfl dX6_as_2 ?_
  refine p_iload_n rfl dX6_as_3 ?_
  refine p_callV (c0 := 0) (av := [.int _, .int _]) qV_RX6_296 rfl rfl rfl rfl (Nat.le_of_ble_eq_true rfl) (Nat.le_of_ble_eq_true rfl) dX6_as_4 (tX6_takenAs (by omega) (ok_b hF)) (fun r0 s2 hF => ?_)
  obtain ⟨r1, rfl, hF⟩ := hF
  refine p_callV (c0 := 0) (av := [.int _]) qV_RX6_64 rfl rfl rfl rfl (Nat.le_of_ble_eq_true rfl) (Nat.le_of_ble_eq_true rfl) dX6_as_7 (tX6_ended (ok_b hF)) (fun r0 s4 hF => ?_)
  obtain ⟨r3, rfl, hF⟩ := hF
  exact p_iret rfl dX6_as_10 (ok_r (j := jI) hF)
theorem tX6_trace {d : Nat} {Q : Option Value → Hp → Prop}  {sg : Hp} (hF : ok jI (fX6_trace  sg) Q) : pw tC d mX6_trace 0 (lv_args 0 [.ref 0]) [] sg Q := by
  unfold fX6_trace at hF
  show pw _ _ _ _ [(0, .ref 0)] [] _ _
  refine p_aload_n rfl dX6_trace_0 ?_
  refine p_getI qF_RX6_53 rfl rfl dX6_trace_1 ?_
  exact p_iret rfl dX6_trace_4 (ok_r (j := jI) hF)
theorem tX6_fault {d : Nat} {Q : Option Value → Hp → Prop}  {sg : Hp} (hF : ok jI (fX6_fault  sg) Q) : pw tC d mX6_fault 0 (lv_args 0 [.ref 0]) [] sg Q := by
  unfold fX6_fault at hF
  show pw _ _ _ _ [(0, .ref 0)] [] _ _
  refine p_aload_n rfl dX6_fault_0 ?_
  refine p_getI qF_RX6_57 rfl rfl dX6_fault_1 ?_
  exact p_iret rfl dX6_fault_4 (ok_r (j := jI) hF)
theorem tX6_many {d : Nat} (hd : 1 ≤ d) {Q : Option Value → Hp → Prop} {a1 : Int32} {sg : Hp} (hF : ok jI (fX6_many a1 sg) Q) : pw tC d mX6_many 0 (lv_args 0 [.ref 0, .int a1]) [] sg Q := by
  unfold fX6_many at hF
  obtain ⟨d, rfl⟩ : ∃ e, d = e + 1 := ⟨d - 1, by omega⟩
  show pw _ _ _ _ [(0, .ref 0), (1, .int a1)] [] _ _
  refine p_iload_n rfl dX6_many_0 ?_
  by_cases h0 : a1 = 0
  · have hF := ok_t h0 hF
    refine p_tabIn (tgt := 32) dX6_many_1 (by rw [h0]; decide) (by rw [h0]; decide) (by rw [h0]; rfl) (by decide) ?_
    refine p_aload_n rfl dX6_many_32 ?_
    refine p_getR (c1 := 1) qF_RX6_12 rfl rfl dX6_many_33 ?_
    refine p_getI qF_RX6_299 rfl rfl dX6_many_36 ?_
    exact p_iret rfl dX6_many_39 (ok_r (j := jI) hF)
  · have hF := ok_f h0 hF
    by_cases h1 : a1 = 1
    · have hF := ok_t h1 hF
      refine p_tabIn (tgt := 40) dX6_many_1 (by rw [h1]; decide) (by rw [h1]; decide) (by rw [h1]; rfl) (by decide) ?_
      refine p_aload_n rfl dX6_many_40 ?_
      refine p_getR (c1 := 2) qF_RX6_21 rfl rfl dX6_many_41 ?_
      refine p_getI qF_RX6_300 rfl rfl dX6_many_44 ?_
      exact p_iret rfl dX6_many_47 (ok_r (j := jI) hF)
    · have hF := ok_f h1 hF
      by_cases h2 : a1 = 2
      · have hF := ok_t h2 hF
        refine p_tabIn (tgt := 48) dX6_many_1 (by rw [h2]; decide) (by rw [h2]; decide) (by rw [h2]; rfl) (by decide) ?_
        refine p_aload_n rfl dX6_many_48 ?_
        refine p_getR (c1 := 3) qF_RX6_28 rfl rfl dX6_many_49 ?_
        refine p_getI qF_RX6_222 rfl rfl dX6_many_52 ?_
        exact p_iret rfl dX6_many_55 (ok_r (j := jI) hF)
      · have hF := ok_f h2 hF
        by_cases h3 : a1 = 3
        · have hF := ok_t h3 hF
          refine p_tabIn (tgt := 56) dX6_many_1 (by rw [h3]; decide) (by rw [h3]; decide) (by rw [h3]; rfl) (by decide) ?_
          refine p_aload_n rfl dX6_many_56 ?_
          refine p_getR (c1 := 2) qF_RX6_21 rfl rfl dX6_many_57 ?_
          refine p_callV (c0 := 2) (av := []) qV_RX6_303 rfl rfl rfl rfl (Nat.le_of_ble_eq_true rfl) (Nat.le_of_ble_eq_true rfl) dX6_many_60 (tX0_servingNodes (ok_b hF)) (fun r0 s2 hF => ?_)
          obtain ⟨r1, rfl, hF⟩ := hF
          exact p_iret rfl dX6_many_63 (ok_r (j := jI) hF)
        · have hF := ok_f h3 hF
          refine p_tabOut (tgt := 64) dX6_many_1 (tab_out4 h0 h1 h2 h3) (by decide) ?_
          refine p_bipush (v := -2) (by decide) dX6_many_64 ?_
          exact p_iret rfl dX6_many_66 (ok_r (j := jI) hF)
