theorem b_X7_letIn_16 {d : Nat} (hd : 2 ≤ d) {Q : Option Value → Hp → Prop}   (sg : Hp) (hF : ok jI (B_X7_letIn_16   sg) Q) : pw tM (d + 1) mX7_letIn 16 [] [] sg Q := by
  unfold B_X7_letIn_16 at hF
  refine p_iconst (v := -1) (by decide) dX7_letIn_16 ?_
  exact p_iret rfl dX7_letIn_17 (ok_r (j := jI) hF)
theorem l_X7_letIn_46 {d : Nat} (hd : 2 ≤ d) {Q : Option Value → Hp → Prop} {k78 : Int32 → Int32 → Int32 → Int32 → Hp → Option (Int32 × Hp)} (hk78 : ∀ (z1 : Int32) (z2 : Int32) (z3 : Int32) (z4 : Int32) (s2 : Hp), ok jI (k78 z1 z2 z3 z4 s2) Q → pw tM (d + 1) mX7_letIn 78 [(0, .ref 300), (1, .int z1), (2, .int z2), (3, .int z3), (4, .int z4)] [] s2 Q) : ∀ (n : Nat) (v1 : Int32) (v2 : Int32) (v3 : Int32) (v4 : Int32) (v5 : Int32) (sg : Hp), ok jI (L_X7_letIn_46 k78 n v1 v2 v3 v4 v5 sg) Q → pw tM (d + 1) mX7_letIn 46 [(0, .ref 300), (1, .int v1), (2, .int v2), (3, .int v3), (4, .int v4), (5, .int v5)] [] sg Q := by
  intro n
  induction n with
  | zero =>
    intro v1 v2 v3 v4 v5 sg hF
    obtain ⟨_, _, h9, _⟩ := hF
    cases h9
  | succ n ih =>
    intro v1 v2 v3 v4 v5 sg hF
    refine p_iload rfl dX7_letIn_46 ?_
    refine p_bipush (v := 41) (by decide) dX7_letIn_48 ?_
    refine p_icmp_ge (tgt := 78) dX7_letIn_50 (by decide) (fun hc => ?_) (fun hc => ?_)
    · have hF := ok_t hc hF
      exact p_lv [0, 1, 2, 3, 4] rfl (hk78 _ _ _ _ _ hF)
    · have hF := ok_f hc hF
      refine p_aload_n rfl dX7_letIn_53 ?_
      refine p_bipush (v := 84) (by decide) dX7_letIn_54 ?_
      refine p_iload rfl dX7_letIn_56 ?_
      refine p_iload rfl dX7_letIn_58 ?_
      refine p_aload_n rfl dX7_letIn_60 ?_
      refine p_iload_n rfl dX7_letIn_61 ?_
      refine p_iload rfl dX7_letIn_62 ?_
      refine p_callV (c0 := 300) (av := [.int _, .int _]) qV_RX7_108 rfl rfl rfl rfl (Nat.le_of_ble_eq_true rfl) (Nat.le_of_ble_eq_true rfl) dX7_letIn_64 (tX7_of (ok_b hF)) (fun r0 s8 hF => ?_)
      obtain ⟨r7, rfl, hF⟩ := hF
      refine p_imul dX7_letIn_67 ?_
      refine p_i2l dX7_letIn_68 ?_
      refine p_callV (c0 := 300) (av := [.int _, .int _, .long _]) qV_RX7_88 rfl rfl rfl rfl (Nat.le_of_ble_eq_true rfl) (Nat.le_of_ble_eq_true rfl) dX7_letIn_69 (tX7_set (ok_b hF)) (fun r0 s10 hF => ?_)
      obtain ⟨r9, rfl, hF⟩ := hF
      refine p_iinc (w := 1) (by decide) rfl (Nat.le_of_ble_eq_true rfl) rfl dX7_letIn_72 ?_
      refine p_goto (tgt := 46) dX7_letIn_75 (by decide) ?_
      exact p_lv [0, 1, 2, 3, 4, 5] rfl (ih _ _ _ _ _ _ hF)
theorem l_X7_letIn_36 {d : Nat} (hd : 2 ≤ d) {Q : Option Value → Hp → Prop} {k111 : Hp → Option (Int32 × Hp)} (hk111 : ∀ (s2 : Hp), ok jI (k111 s2) Q → pw tM (d + 1) mX7_letIn 111 [] [] s2 Q) {k100 : Int32 → Hp → Option (Int32 × Hp)} (hk100 : ∀ (z4 : Int32) (s2 : Hp), ok jI (k100 z4 s2) Q → pw tM (d + 1) mX7_letIn 100 [(4, .int z4)] [] s2 Q) : ∀ (n : Nat) (v1 : Int32) (v2 : Int32) (v3 : Int32) (v4 : Int32) (sg : Hp), ok jI (L_X7_letIn_36 k111 k100 n v1 v2 v3 v4 sg) Q → pw tM (d + 1) mX7_letIn 36 [(0, .ref 300), (1, .int v1), (2, .int v2), (3, .int v3), (4, .int v4)] [] sg Q := by
  intro n
  induction n with
  | zero =>
    intro v1 v2 v3 v4 sg hF
    obtain ⟨_, _, h9, _⟩ := hF
    cases h9
  | succ n ih =>
    intro v1 v2 v3 v4 sg hF
    refine p_iload rfl dX7_letIn_36 ?_
    refine p_bipush (v := 100) (by decide) dX7_letIn_38 ?_
    refine p_icmp_ge (tgt := 111) dX7_letIn_40 (by decide) (fun hc => ?_) (fun hc => ?_)
    · have hF := ok_t hc hF
      exact p_lv [] rfl (hk111 _ hF)
    · have hF := ok_f hc hF
      refine p_iconst (v := 0) (by decide) dX7_letIn_43 ?_
      refine p_istore (Nat.le_of_ble_eq_true rfl) rfl dX7_letIn_44 ?_
      refine p_lv [0, 1, 2, 3, 4, 5] rfl (l_X7_letIn_46 hd ?_ 200 _ _ _ _ _ _ hF)
      intro w11_1 w11_2 w11_3 w11_4 s12 hF
      refine p_aload_n rfl dX7_letIn_78 ?_
      refine p_bipush (v := 84) (by decide) dX7_letIn_79 ?_
      refine p_iload_n rfl dX7_letIn_81 ?_
      refine p_bipush (v := 20) (by decide) dX7_letIn_82 ?_
      refine p_callV (c0 := 300) (av := [.int _, .int _, .int _]) qV_RX7_182 rfl rfl rfl rfl (Nat.le_of_ble_eq_true rfl) (Nat.le_of_ble_eq_true rfl) dX7_letIn_84 (tX7_waitOf (by omega) (ok_b hF)) (fun r0 s14 hF => ?_)
      obtain ⟨r13, rfl, hF⟩ := hF
      refine p_istore (Nat.le_of_ble_eq_true rfl) rfl dX7_letIn_87 ?_
      refine p_iload rfl dX7_letIn_89 ?_
      refine p_if_lt (tgt := 100) dX7_letIn_91 (by decide) (fun hc => ?_) (fun hc => ?_)
      · have hF := ok_t hc hF
        exact p_lv [4] rfl (hk100 _ _ hF)
      · have hF := ok_f hc hF
        refine p_iload rfl dX7_letIn_94 ?_
        refine p_iload_n rfl dX7_letIn_96 ?_
        refine p_icmp_le (tgt := 105) dX7_letIn_97 (by decide) (fun hc => ?_) (fun hc => ?_)
        · have hF := ok_t hc hF
          refine p_iinc (w := 1) (by decide) rfl (Nat.le_of_ble_eq_true rfl) rfl dX7_letIn_105 ?_
          refine p_goto (tgt := 36) dX7_letIn_108 (by decide) ?_
          exact p_lv [0, 1, 2, 3, 4] rfl (ih _ _ _ _ _ hF)
        · have hF := ok_f hc hF
          exact p_lv [4] rfl (hk100 _ _ hF)
theorem tX7_letIn {d : Nat} (hd : 3 ≤ d) {Q : Option Value → Hp → Prop} {a1 : Int32} {a2 : Int32} {a3 : Int32} {sg : Hp} (hF : ok jI (fX7_letIn a1 a2 a3 sg) Q) : pw tM d mX7_letIn 0 (lv_args 0 [.ref 300, .int a1, .int a2, .int a3]) [] sg Q := by
  unfold fX7_letIn at hF
  obtain ⟨d, rfl⟩ : ∃ e, d = e + 1 := ⟨d - 1, by omega⟩
  have hd : 2 ≤ d := by omega
  show pw _ _ _ _ [(0, .ref 300), (1, .int a1), (2, .int a2), (3, .int a3)] [] _ _
  refine p_aload_n rfl dX7_letIn_0 ?_
  refine p_iload_n rfl dX7_letIn_1 ?_
  refine p_callV (c0 := 300) (av := [.int _]) qV_RX7_161 rfl rfl rfl rfl (Nat.le_of_ble_eq_true rfl) (Nat.le_of_ble_eq_true rfl) dX7_letIn_2 (tX7_noStair (by omega) (ok_b hF)) (fun r0 s2 hF => ?_)
  obtain ⟨r1, rfl, hF⟩ := hF
  refine p_if_ne (tgt := 16) dX7_letIn_5 (by decide) (fun hc => ?_) (fun hc => ?_)
  · have hF := ok_f hc hF
    exact p_lv [] rfl (b_X7_letIn_16 hd  _ hF)
  · have hF := ok_t hc hF
    refine p_aload_n rfl dX7_letIn_8 ?_
    refine p_iload_n rfl dX7_letIn_9 ?_
    refine p_callV (c0 := 300) (av := [.int _]) qV_RX7_161 rfl rfl rfl rfl (Nat.le_of_ble_eq_true rfl) (Nat.le_of_ble_eq_true rfl) dX7_letIn_10 (tX7_noStair (by omega) (ok_b hF)) (fun r0 s4 hF => ?_)
    obtain ⟨r3, rfl, hF⟩ := hF
    refine p_if_eq (tgt := 18) dX7_letIn_13 (by decide) (fun hc => ?_) (fun hc => ?_)
    · have hF := ok_t hc hF
      refine p_iload_n rfl dX7_letIn_18 ?_
      refine p_i2l dX7_letIn_19 ?_
      refine p_lconst (v := 0) (by decide) dX7_letIn_20 ?_
      refine p_ldc2 wd_876 dX7_letIn_21 ?_
      refine p_callS (av := [.long _, .long _, .long _]) qS_RX7_67 rfl (Nat.le_of_ble_eq_true rfl) (Nat.le_of_ble_eq_true rfl) dX7_letIn_24 (tX7_in (ok_b hF)) (fun r0 s6 hF => ?_)
      obtain ⟨r5, rfl, hF⟩ := hF
      refine p_if_ne (tgt := 33) dX7_letIn_27 (by decide) (fun hc => ?_) (fun hc => ?_)
      · have hF := ok_f hc hF
        refine p_iconst (v := 1) (by decide) dX7_letIn_33 ?_
        refine p_istore (Nat.le_of_ble_eq_true rfl) rfl dX7_letIn_34 ?_
        refine p_lv [0, 1, 2, 3, 4] rfl (l_X7_letIn_36 hd ?_ ?_ 200 _ _ _ _ _ hF)
        · intro s16 hF
          refine p_bipush (v := 99) (by decide) dX7_letIn_111 ?_
          exact p_iret rfl dX7_letIn_113 (ok_r (j := jI) hF)
        · intro w17_4 s18 hF
          refine p_iload rfl dX7_letIn_100 ?_
          refine p_iconst (v := 1) (by decide) dX7_letIn_102 ?_
          refine p_isub dX7_letIn_103 ?_
          exact p_iret rfl dX7_letIn_104 (ok_r (j := jI) hF)
      · have hF := ok_t hc hF
        refine p_bipush (v := -2) (by decide) dX7_letIn_30 ?_
        exact p_iret rfl dX7_letIn_32 (ok_r (j := jI) hF)
    · have hF := ok_f hc hF
      exact p_lv [] rfl (b_X7_letIn_16 hd  _ hF)
theorem b_X7_sheet_31 {d : Nat} (hd : 1 ≤ d) {Q : Option Value → Hp → Prop}   (sg : Hp) (hF : ok jI (B_X7_sheet_31   sg) Q) : pw tM (d + 1) mX7_sheet 31 [(0, .ref 300)] [] sg Q := by
  unfold B_X7_sheet_31 at hF
  refine p_aload_n rfl dX7_sheet_31 ?_
  refine p_bipush (v := -2) (by decide) dX7_sheet_32 ?_
  refine p_callV (c0 := 300) (av := [.int _]) qV_RX7_71 rfl rfl rfl rfl (Nat.le_of_ble_eq_true rfl) (Nat.le_of_ble_eq_true rfl) dX7_sheet_34 (tX7_refused (ok_b hF)) (fun r0 s6 hF => ?_)
  obtain ⟨r5, rfl, hF⟩ := hF
  exact p_iret rfl dX7_sheet_37 (ok_r (j := jI) hF)
theorem l_X7_sheet_65 {d : Nat} (hd : 1 ≤ d) {Q : Option Value → Hp → Prop} {k90 : Hp → Option (Int32 × Hp)} (hk90 : ∀ (s2 : Hp), ok jI (k90 s2) Q → pw tM (d + 1) mX7_sheet 90 [(0, .ref 300)] [] s2 Q) : ∀ (n : Nat) (v1 : Int32) (v3 : Int32) (v4 : Int32) (sg : Hp), ok jI (L_X7_sheet_65 k90 n v1 v3 v4 sg) Q → pw tM (d + 1) mX7_sheet 65 [(0, .ref 300), (1, .int v1), (3, .int v3), (4, .int v4)] [] sg Q := by
  intro n
  induction n with
  | zero =>
    intro v1 v3 v4 sg hF
    obtain ⟨_, _, h9, _⟩ := hF
    cases h9
  | succ n ih =>
    intro v1 v3 v4 sg hF
    refine p_iload rfl dX7_sheet_65 ?_
    refine p_iload_n rfl dX7_sheet_67 ?_
    refine p_icmp_ge (tgt := 90) dX7_sheet_68 (by decide) (fun hc => ?_) (fun hc => ?_)
    · have hF := ok_t hc hF
      exact p_lv [0] rfl (hk90 _ hF)
    · have hF := ok_f hc hF
      refine p_aload_n rfl dX7_sheet_71 ?_
      refine p_getR (c1 := 322) qF_RX7_49 rfl rfl dX7_sheet_72 ?_
      refine p_bipush (v := 60) (by decide) dX7_sheet_75 ?_
      refine p_iload_n rfl dX7_sheet_77 ?_
      refine p_imul dX7_sheet_78 ?_
      refine p_iload rfl dX7_sheet_79 ?_
      refine p_iadd dX7_sheet_81 ?_
      refine p_iconst (v := 0) (by decide) dX7_sheet_82 ?_
      obtain ⟨hg, hF⟩ := ok_g hF
      refine p_iast rfl (inb_in hg) dX7_sheet_83 ?_
      refine p_iinc (w := 1) (by decide) rfl (Nat.le_of_ble_eq_true rfl) rfl dX7_sheet_84 ?_
      refine p_goto (tgt := 65) dX7_sheet_87 (by decide) ?_
      exact p_lv [0, 1, 3, 4] rfl (ih _ _ _ _ hF)
theorem tX7_sheet {d : Nat} (hd : 2 ≤ d) {Q : Option Value → Hp → Prop} {a1 : Int32} {a2 : Int32} {a3 : Int32} {sg : Hp} (hF : ok jI (fX7_sheet a1 a2 a3 sg) Q) : pw tM d mX7_sheet 0 (lv_args 0 [.ref 300, .int a1, .int a2, .int a3]) [] sg Q := by
  unfold fX7_sheet at hF
  obtain ⟨d, rfl⟩ : ∃ e, d = e + 1 := ⟨d - 1, by omega⟩
  have hd : 1 ≤ d := by omega
  show pw _ _ _ _ [(0, .ref 300), (1, .int a1), (2, .int a2), (3, .int a3)] [] _ _
  refine p_iload_n rfl dX7_sheet_0 ?_
  refine p_callS (av := [.int _]) qS_RX7_96 rfl (Nat.le_of_ble_eq_true rfl) (Nat.le_of_ble_eq_true rfl) dX7_sheet_1 (tX7_noSheet (by omega) (ok_b hF)) (fun r0 s2 hF => ?_)
  obtain ⟨r1, rfl, hF⟩ := hF
  refine p_if_eq (tgt := 13) dX7_sheet_4 (by decide) (fun hc => ?_) (fun hc => ?_)
  · have hF := ok_t hc hF
    refine p_iload_n rfl dX7_sheet_13 ?_
    refine p_i2l dX7_sheet_14 ?_
    refine p_lconst (v := 0) (by decide) dX7_sheet_15 ?_
    refine p_ldc2 wd_864 dX7_sheet_16 ?_
    refine p_callS (av := [.long _, .long _, .long _]) qS_RX7_67 rfl (Nat.le_of_ble_eq_true rfl) (Nat.le_of_ble_eq_true rfl) dX7_sheet_19 (tX7_in (ok_b hF)) (fun r0 s4 hF => ?_)
    obtain ⟨r3, rfl, hF⟩ := hF
    refine p_if_eq (tgt := 31) dX7_sheet_22 (by decide) (fun hc => ?_) (fun hc => ?_)
    · have hF := ok_t hc hF
      exact p_lv [0] rfl (b_X7_sheet_31 hd  _ hF)
    · have hF := ok_f hc hF
      refine p_iload_n rfl dX7_sheet_25 ?_
      refine p_bipush (v := 60) (by decide) dX7_sheet_26 ?_
      refine p_icmp_le (tgt := 38) dX7_sheet_28 (by decide) (fun hc => ?_) (fun hc => ?_)
      · have hF := ok_t hc hF
        refine p_iload_n rfl dX7_sheet_38 ?_
        refine p_if_ge (tgt := 48) dX7_sheet_39 (by decide) (fun hc => ?_) (fun hc => ?_)
        · have hF := ok_t hc hF
          refine p_aload_n rfl dX7_sheet_48 ?_
          refine p_getR (c1 := 320) qF_RX7_43 rfl rfl dX7_sheet_49 ?_
          refine p_iload_n rfl dX7_sheet_52 ?_
          refine p_iload_n rfl dX7_sheet_53 ?_
          obtain ⟨hg, hF⟩ := ok_g hF
          refine p_iast rfl (inb_in hg) dX7_sheet_54 ?_
          refine p_aload_n rfl dX7_sheet_55 ?_
          refine p_getR (c1 := 321) qF_RX7_46 rfl rfl dX7_sheet_56 ?_
          refine p_iload_n rfl dX7_sheet_59 ?_
          refine p_iload_n rfl dX7_sheet_60 ?_
          obtain ⟨hg, hF⟩ := ok_g hF
          refine p_iast rfl (inb_in hg) dX7_sheet_61 ?_
          refine p_iconst (v := 0) (by decide) dX7_sheet_62 ?_
          refine p_istore (Nat.le_of_ble_eq_true rfl) rfl dX7_sheet_63 ?_
          refine p_lv [0, 1, 3, 4] rfl (l_X7_sheet_65 hd ?_ 200 _ _ _ _ hF)
          intro s8 hF
          refine p_aload_n rfl dX7_sheet_90 ?_
          refine p_iconst (v := 1) (by decide) dX7_sheet_91 ?_
          refine p_callV (c0 := 300) (av := [.int _]) qV_RX7_71 rfl rfl rfl rfl (Nat.le_of_ble_eq_true rfl) (Nat.le_of_ble_eq_true rfl) dX7_sheet_92 (tX7_refused (ok_b hF)) (fun r0 s10 hF => ?_)
          obtain ⟨r9, rfl, hF⟩ := hF
          exact p_iret rfl dX7_sheet_95 (ok_r (j := jI) hF)
        · have hF := ok_f hc hF
          refine p_aload_n rfl dX7_sheet_42 ?_
          refine p_iconst (v := 4) (by decide) dX7_sheet_43 ?_
          refine p_callV (c0 := 300) (av := [.int _]) qV_RX7_75 rfl rfl rfl rfl (Nat.le_of_ble_eq_true rfl) (Nat.le_of_ble_eq_true rfl) dX7_sheet_44 (tX7_failed (ok_b hF)) (fun r0 s12 hF => ?_)
          obtain ⟨r11, rfl, hF⟩ := hF
          exact p_iret rfl dX7_sheet_47 (ok_r (j := jI) hF)
      · have hF := ok_f hc hF
        exact p_lv [0] rfl (b_X7_sheet_31 hd  _ hF)
  · have hF := ok_f hc hF
    refine p_aload_n rfl dX7_sheet_7 ?_
    refine p_iconst (v := -1) (by decide) dX7_sheet_8 ?_
    refine p_callV (c0 := 300) (av := [.int _]) qV_RX7_71 rfl rfl rfl rfl (Nat.le_of_ble_eq_true rfl) (Nat.le_of_ble_eq_true rfl) dX7_sheet_9 (tX7_refused (ok_b hF)) (fun r0 s14 hF => ?_)
    obtain ⟨r13, rfl, hF⟩ := hF
    exact p_iret rfl dX7_sheet_12 (ok_r (j := jI) hF)
theorem b_X7_lose_23 {d : Nat} (hd : 1 ≤ d) {Q : Option Value → Hp → Prop}  (v1 : Int32) (vk0 : Int32) (sg : Hp) (hF : ok jI (B_X7_lose_23  v1 vk0 sg) Q) : pw tM (d + 1) mX7_lose 23 [(0, .ref 300), (1, .int v1)] [.int vk0] sg Q := by
  unfold B_X7_lose_23 at hF
  refine p_istore_n (Nat.le_of_ble_eq_true rfl) rfl dX7_lose_23 ?_
  refine p_aload_n rfl dX7_lose_24 ?_
  refine p_getR (c1 := 320) qF_RX7_43 rfl rfl dX7_lose_25 ?_
  refine p_iload_n rfl dX7_lose_28 ?_
  refine p_iconst (v := -1) (by decide) dX7_lose_29 ?_
  obtain ⟨hg, hF⟩ := ok_g hF
  refine p_iast rfl (inb_in hg) dX7_lose_30 ?_
  refine p_iload_n rfl dX7_lose_31 ?_
  exact p_iret rfl dX7_lose_32 (ok_r (j := jI) hF)
theorem tX7_lose {d : Nat} (hd : 2 ≤ d) {Q : Option Value → Hp → Prop} {a1 : Int32} {sg : Hp} (hF : ok jI (fX7_lose a1 sg) Q) : pw tM d mX7_lose 0 (lv_args 0 [.ref 300, .int a1]) [] sg Q := by
  unfold fX7_lose at hF
  obtain ⟨d, rfl⟩ : ∃ e, d = e + 1 := ⟨d - 1, by omega⟩
  have hd : 1 ≤ d := by omega
  show pw _ _ _ _ [(0, .ref 300), (1, .int a1)] [] _ _
  refine p_iload_n rfl dX7_lose_0 ?_
  refine p_callS (av := [.int _]) qS_RX7_96 rfl (Nat.le_of_ble_eq_true rfl) (Nat.le_of_ble_eq_true rfl) dX7_lose_1 (tX7_noSheet (by omega) (ok_b hF)) (fun r0 s2 hF => ?_)
  obtain ⟨r1, rfl, hF⟩ := hF
  refine p_if_eq (tgt := 9) dX7_lose_4 (by decide) (fun hc => ?_) (fun hc => ?_)
  · have hF := ok_t hc hF
    refine p_aload_n rfl dX7_lose_9 ?_
    refine p_getR (c1 := 320) qF_RX7_43 rfl rfl dX7_lose_10 ?_
    refine p_iload_n rfl dX7_lose_13 ?_
    obtain ⟨hg, hF⟩ := ok_g hF
    refine p_iald rfl (inb_in hg) dX7_lose_14 ?_
    refine p_if_ge (tgt := 22) dX7_lose_15 (by decide) (fun hc => ?_) (fun hc => ?_)
    · have hF := ok_t hc hF
      refine p_iconst (v := 1) (by decide) dX7_lose_22 ?_
      exact p_lv [0, 1] rfl (b_X7_lose_23 hd  _ _ _ hF)
    · have hF := ok_f hc hF
      refine p_iconst (v := 0) (by decide) dX7_lose_18 ?_
      refine p_goto (tgt := 23) dX7_lose_19 (by decide) ?_
      exact p_lv [0, 1] rfl (b_X7_lose_23 hd  _ _ _ hF)
  · have hF := ok_f hc hF
    refine p_iconst (v := -1) (by decide) dX7_lose_7 ?_
    exact p_iret rfl dX7_lose_8 (ok_r (j := jI) hF)
theorem b_X7_noCell_36 {d : Nat} {Q : Option Value → Hp → Prop}  (vk0 : Int32) (sg : Hp) (hF : ok jI (B_X7_noCell_36  vk0 sg) Q) : pw tM (d + 1) mX7_noCell 36 [] [.int vk0] sg Q := by
  unfold B_X7_noCell_36 at hF
  exact p_iret rfl dX7_noCell_36 (ok_r (j := jI) hF)
theorem tX7_noCell {d : Nat} (hd : 1 ≤ d) {Q : Option Value → Hp → Prop} {a1 : Int32} {a2 : Int32} {sg : Hp} (hF : ok jI (fX7_noCell a1 a2 sg) Q) : pw tM d mX7_noCell 0 (lv_args 0 [.ref 300, .int a1, .int a2]) [] sg Q := by
  unfold fX7_noCell at hF
  obtain ⟨d, rfl⟩ : ∃ e, d = e + 1 := ⟨d - 1, by omega⟩
  show pw _ _ _ _ [(0, .ref 300), (1, .int a1), (2, .int a2)] [] _ _
  refine p_aload_n rfl dX7_noCell_0 ?_
  refine p_getR (c1 := 320) qF_RX7_43 rfl rfl dX7_noCell_1 ?_
  refine p_iload_n rfl dX7_noCell_4 ?_
  obtain ⟨hg, hF⟩ := ok_g hF
  refine p_iald rfl (inb_in hg) dX7_noCell_5 ?_
  refine p_if_ge (tgt := 13) dX7_noCell_6 (by decide) (fun hc => ?_) (fun hc => ?_)
  · have hF := ok_t hc hF
    refine p_iload_n rfl dX7_noCell_13 ?_
    refine p_i2l dX7_noCell_14 ?_
    refine p_lconst (v := 0) (by decide) dX7_noCell_15 ?_
    refine p_aload_n rfl dX7_noCell_16 ?_
    refine p_getR (c1 := 320) qF_RX7_43 rfl rfl dX7_noCell_17 ?_
    refine p_iload_n rfl dX7_noCell_20 ?_
    obtain ⟨hg, hF⟩ := ok_g hF
    refine p_iald rfl (inb_in hg) dX7_noCell_21 ?_
    refine p_i2l dX7_noCell_22 ?_
    refine p_lconst (v := 1) (by decide) dX7_noCell_23 ?_
    refine p_lsub dX7_noCell_24 ?_
    refine p_callS (av := [.long _, .long _, .long _]) qS_RX7_67 rfl (Nat.le_of_ble_eq_true rfl) (Nat.le_of_ble_eq_true rfl) dX7_noCell_25 (tX7_in (ok_b hF)) (fun r0 s2 hF => ?_)
    obtain ⟨r1, rfl, hF⟩ := hF
    refine p_if_eq (tgt := 35) dX7_noCell_28 (by decide) (fun hc => ?_) (fun hc => ?_)
    · have hF := ok_t hc hF
      refine p_iconst (v := 3) (by decide) dX7_noCell_35 ?_
      exact p_lv [] rfl (b_X7_noCell_36  _ _ hF)
    · have hF := ok_f hc hF
      refine p_iconst (v := 0) (by decide) dX7_noCell_31 ?_
      refine p_goto (tgt := 36) dX7_noCell_32 (by decide) ?_
      exact p_lv [] rfl (b_X7_noCell_36  _ _ hF)
  · have hF := ok_f hc hF
    refine p_iconst (v := 1) (by decide) dX7_noCell_9 ?_
    refine p_goto (tgt := 36) dX7_noCell_10 (by decide) ?_
    exact p_lv [] rfl (b_X7_noCell_36  _ _ hF)
theorem b_X7_put_73 {d : Nat} (hd : 1 ≤ d) {Q : Option Value → Hp → Prop}  (vk0 : Int32) (vk1 : Int32) (sg : Hp) (hF : ok jI (B_X7_put_73  vk0 vk1 sg) Q) : pw tM (d + 1) mX7_put 73 [(0, .ref 300)] [.int vk0, .int vk1, .ref 322] sg Q := by
  unfold B_X7_put_73 at hF
  obtain ⟨hg, hF⟩ := ok_g hF
  refine p_iast rfl (inb_in hg) dX7_put_73 ?_
  refine p_aload_n rfl dX7_put_74 ?_
  refine p_iconst (v := 1) (by decide) dX7_put_75 ?_
  refine p_callV (c0 := 300) (av := [.int _]) qV_RX7_71 rfl rfl rfl rfl (Nat.le_of_ble_eq_true rfl) (Nat.le_of_ble_eq_true rfl) dX7_put_76 (tX7_refused (ok_b hF)) (fun r0 s6 hF => ?_)
  obtain ⟨r5, rfl, hF⟩ := hF
  exact p_iret rfl dX7_put_79 (ok_r (j := jI) hF)
theorem tX7_put {d : Nat} (hd : 2 ≤ d) {Q : Option Value → Hp → Prop} {a1 : Int32} {a2 : Int32} {a3 : Int32} {sg : Hp} (hF : ok jI (fX7_put a1 a2 a3 sg) Q) : pw tM d mX7_put 0 (lv_args 0 [.ref 300, .int a1, .int a2, .int a3]) [] sg Q := by
  unfold fX7_put at hF
  obtain ⟨d, rfl⟩ : ∃ e, d = e + 1 := ⟨d - 1, by omega⟩
  have hd : 1 ≤ d := by omega
  show pw _ _ _ _ [(0, .ref 300), (1, .int a1), (2, .int a2), (3, .int a3)] [] _ _
  refine p_iload_n rfl dX7_put_0 ?_
  refine p_callS (av := [.int _]) qS_RX7_96 rfl (Nat.le_of_ble_eq_true rfl) (Nat.le_of_ble_eq_true rfl) dX7_put_1 (tX7_noSheet (by omega) (ok_b hF)) (fun r0 s2 hF => ?_)
  obtain ⟨r1, rfl, hF⟩ := hF
  refine p_if_eq (tgt := 13) dX7_put_4 (by decide) (fun hc => ?_) (fun hc => ?_)
  · have hF := ok_t hc hF
    refine p_aload_n rfl dX7_put_13 ?_
    refine p_iload_n rfl dX7_put_14 ?_
    refine p_iload_n rfl dX7_put_15 ?_
    refine p_callV (c0 := 300) (av := [.int _, .int _]) qV_RX7_250 rfl rfl rfl rfl (Nat.le_of_ble_eq_true rfl) (Nat.le_of_ble_eq_true rfl) dX7_put_16 (tX7_noCell (by omega) (ok_b hF)) (fun r0 s4 hF => ?_)
    obtain ⟨r3, rfl, hF⟩ := hF
    refine p_if_le (tgt := 33) dX7_put_19 (by decide) (fun hc => ?_) (fun hc => ?_)
    · have hF := ok_t hc hF
      refine p_aload_n rfl dX7_put_33 ?_
      refine p_getR (c1 := 322) qF_RX7_49 rfl rfl dX7_put_34 ?_
      refine p_bipush (v := 60) (by decide) dX7_put_37 ?_
      refine p_iload_n rfl dX7_put_39 ?_
      refine p_imul dX7_put_40 ?_
      refine p_iload_n rfl dX7_put_41 ?_
      refine p_iadd dX7_put_42 ?_
      refine p_aload_n rfl dX7_put_43 ?_
      refine p_getR (c1 := 321) qF_RX7_46 rfl rfl dX7_put_44 ?_
      refine p_iload_n rfl dX7_put_47 ?_
      obtain ⟨hg, hF⟩ := ok_g hF
      refine p_iald rfl (inb_in hg) dX7_put_48 ?_
      refine p_if_ne (tgt := 57) dX7_put_49 (by decide) (fun hc => ?_) (fun hc => ?_)
      · have hF := ok_f hc hF
        refine p_aload_n rfl dX7_put_57 ?_
        refine p_getR (c1 := 321) qF_RX7_46 rfl rfl dX7_put_58 ?_
        refine p_iload_n rfl dX7_put_61 ?_
        obtain ⟨hg, hF⟩ := ok_g hF
        refine p_iald rfl (inb_in hg) dX7_put_62 ?_
        refine p_iconst (v := 1) (by decide) dX7_put_63 ?_
        refine p_icmp_ne (tgt := 72) dX7_put_64 (by decide) (fun hc => ?_) (fun hc => ?_)
        · have hF := ok_f hc hF
          refine p_iload_n rfl dX7_put_72 ?_
          exact p_lv [0] rfl (b_X7_put_73 hd  _ _ _ hF)
        · have hF := ok_t hc hF
          refine p_iload_n rfl dX7_put_67 ?_
          refine p_i2s dX7_put_68 ?_
          refine p_goto (tgt := 73) dX7_put_69 (by decide) ?_
          exact p_lv [0] rfl (b_X7_put_73 hd  _ _ _ hF)
      · have hF := ok_t hc hF
        refine p_iload_n rfl dX7_put_52 ?_
        refine p_i2b dX7_put_53 ?_
        refine p_goto (tgt := 73) dX7_put_54 (by decide) ?_
        exact p_lv [0] rfl (b_X7_put_73 hd  _ _ _ hF)
    · have hF := ok_f hc hF
      refine p_aload_n rfl dX7_put_22 ?_
      refine p_aload_n rfl dX7_put_23 ?_
      refine p_iload_n rfl dX7_put_24 ?_
      refine p_iload_n rfl dX7_put_25 ?_
      refine p_callV (c0 := 300) (av := [.int _, .int _]) qV_RX7_250 rfl rfl rfl rfl (Nat.le_of_ble_eq_true rfl) (Nat.le_of_ble_eq_true rfl) dX7_put_26 (tX7_noCell (by omega) (ok_b hF)) (fun r0 s8 hF => ?_)
      obtain ⟨r7, rfl, hF⟩ := hF
      refine p_callV (c0 := 300) (av := [.int _]) qV_RX7_75 rfl rfl rfl rfl (Nat.le_of_ble_eq_true rfl) (Nat.le_of_ble_eq_true rfl) dX7_put_29 (tX7_failed (ok_b hF)) (fun r0 s10 hF => ?_)
      obtain ⟨r9, rfl, hF⟩ := hF
      exact p_iret rfl dX7_put_32 (ok_r (j := jI) hF)
  · have hF := ok_f hc hF
    refine p_aload_n rfl dX7_put_7 ?_
    refine p_iconst (v := -1) (by decide) dX7_put_8 ?_
    refine p_callV (c0 := 300) (av := [.int _]) qV_RX7_71 rfl rfl rfl rfl (Nat.le_of_ble_eq_true rfl) (Nat.le_of_ble_eq_true rfl) dX7_put_9 (tX7_refused (ok_b hF)) (fun r0 s12 hF => ?_)
    obtain ⟨r11, rfl, hF⟩ := hF
    exact p_iret rfl dX7_put_12 (ok_r (j := jI) hF)
theorem b_X7_cell_24 {d : Nat} (hd : 1 ≤ d) {Q : Option Value → Hp → Prop}   (sg : Hp) (hF : ok jL (B_X7_cell_24   sg) Q) : pw tM (d + 1) mX7_cell 24 [] [] sg Q := by
  unfold B_X7_cell_24 at hF
  refine p_callS (av := []) qS_RX7_61 rfl (Nat.le_of_ble_eq_true rfl) (Nat.le_of_ble_eq_true rfl) dX7_cell_24 (tX7_lost (ok_b hF)) (fun r0 s4 hF => ?_)
  obtain ⟨r3, rfl, hF⟩ := hF
  exact p_lret rfl dX7_cell_27 (ok_r (j := jL) hF)
theorem b_X7_cell_87 {d : Nat} (hd : 1 ≤ d) {Q : Option Value → Hp → Prop}  (vk0 : Int64) (sg : Hp) (hF : ok jL (B_X7_cell_87  vk0 sg) Q) : pw tM (d + 1) mX7_cell 87 [] [.long vk0] sg Q := by
  unfold B_X7_cell_87 at hF
  exact p_lret rfl dX7_cell_87 (ok_r (j := jL) hF)
theorem b_X7_cell_53 {d : Nat} (hd : 1 ≤ d) {Q : Option Value → Hp → Prop}  (v1 : Int32) (v2 : Int32) (sg : Hp) (hF : ok jL (B_X7_cell_53  v1 v2 sg) Q) : pw tM (d + 1) mX7_cell 53 [(0, .ref 300), (1, .int v1), (2, .int v2)] [] sg Q := by
  unfold B_X7_cell_53 at hF
  refine p_aload_n rfl dX7_cell_53 ?_
  refine p_iload_n rfl dX7_cell_54 ?_
  refine p_iload_n rfl dX7_cell_55 ?_
  refine p_callV (c0 := 300) (av := [.int _, .int _]) qV_RX7_250 rfl rfl rfl rfl (Nat.le_of_ble_eq_true rfl) (Nat.le_of_ble_eq_true rfl) dX7_cell_56 (tX7_noCell (by omega) (ok_b hF)) (fun r0 s8 hF => ?_)
  obtain ⟨r7, rfl, hF⟩ := hF
  refine p_if_le (tgt := 75) dX7_cell_59 (by decide) (fun hc => ?_) (fun hc => ?_)
  · have hF := ok_t hc hF
    refine p_aload_n rfl dX7_cell_75 ?_
    refine p_getR (c1 := 322) qF_RX7_49 rfl rfl dX7_cell_76 ?_
    refine p_bipush (v := 60) (by decide) dX7_cell_79 ?_
    refine p_iload_n rfl dX7_cell_81 ?_
    refine p_imul dX7_cell_82 ?_
    refine p_iload_n rfl dX7_cell_83 ?_
    refine p_iadd dX7_cell_84 ?_
    obtain ⟨hg, hF⟩ := ok_g hF
    refine p_iald rfl (inb_in hg) dX7_cell_85 ?_
    refine p_i2l dX7_cell_86 ?_
    exact p_lv [] rfl (b_X7_cell_87 hd  _ _ hF)
  · have hF := ok_f hc hF
    refine p_aload_n rfl dX7_cell_62 ?_
    refine p_aload_n rfl dX7_cell_63 ?_
    refine p_iload_n rfl dX7_cell_64 ?_
    refine p_iload_n rfl dX7_cell_65 ?_
    refine p_callV (c0 := 300) (av := [.int _, .int _]) qV_RX7_250 rfl rfl rfl rfl (Nat.le_of_ble_eq_true rfl) (Nat.le_of_ble_eq_true rfl) dX7_cell_66 (tX7_noCell (by omega) (ok_b hF)) (fun r0 s10 hF => ?_)
    obtain ⟨r9, rfl, hF⟩ := hF
    refine p_callV (c0 := 300) (av := [.int _]) qV_RX7_253 rfl rfl rfl rfl (Nat.le_of_ble_eq_true rfl) (Nat.le_of_ble_eq_true rfl) dX7_cell_69 (tX7_failedLong (by omega) (ok_b hF)) (fun r0 s12 hF => ?_)
    obtain ⟨r11, rfl, hF⟩ := hF
    refine p_goto (tgt := 87) dX7_cell_72 (by decide) ?_
    exact p_lv [] rfl (b_X7_cell_87 hd  _ _ hF)
theorem tX7_cell {d : Nat} (hd : 2 ≤ d) {Q : Option Value → Hp → Prop} {a1 : Int32} {a2 : Int32} {a3 : Int32} {sg : Hp} (hF : ok jL (fX7_cell a1 a2 a3 sg) Q) : pw tM d mX7_cell 0 (lv_args 0 [.ref 300, .int a1, .int a2, .int a3]) [] sg Q := by
  unfold fX7_cell at hF
  obtain ⟨d, rfl⟩ : ∃ e, d = e + 1 := ⟨d - 1, by omega⟩
  have hd : 1 ≤ d := by omega
  show pw _ _ _ _ [(0, .ref 300), (1, .int a1), (2, .int a2), (3, .int a3)] [] _ _
  refine p_aload_n rfl dX7_cell_0 ?_
  refine p_iconst (v := 0) (by decide) dX7_cell_1 ?_
  refine p_put qF_RX7_57 qP_6_0 rfl rfl rfl rfl dX7_cell_2 ?_
  refine p_iload_n rfl dX7_cell_5 ?_
  refine p_callS (av := [.int _]) qS_RX7_96 rfl (Nat.le_of_ble_eq_true rfl) (Nat.le_of_ble_eq_true rfl) dX7_cell_6 (tX7_noSheet (by omega) (ok_b hF)) (fun r0 s2 hF => ?_)
  obtain ⟨r1, rfl, hF⟩ := hF
  refine p_if_ne (tgt := 24) dX7_cell_9 (by decide) (fun hc => ?_) (fun hc => ?_)
  · have hF := ok_f hc hF
    exact p_lv [] rfl (b_X7_cell_24 hd  _ hF)
  · have hF := ok_t hc hF
    refine p_iload_n rfl dX7_cell_12 ?_
    refine p_i2l dX7_cell_13 ?_
    refine p_lconst (v := 0) (by decide) dX7_cell_14 ?_
    refine p_ldc2 wd_864 dX7_cell_15 ?_
    refine p_callS (av := [.long _, .long _, .long _]) qS_RX7_67 rfl (Nat.le_of_ble_eq_true rfl) (Nat.le_of_ble_eq_true rfl) dX7_cell_18 (tX7_in (ok_b hF)) (fun r0 s6 hF => ?_)
    obtain ⟨r5, rfl, hF⟩ := hF
    refine p_if_ne (tgt := 28) dX7_cell_21 (by decide) (fun hc => ?_) (fun hc => ?_)
    · have hF := ok_f hc hF
      refine p_aload_n rfl dX7_cell_28 ?_
      refine p_getR (c1 := 320) qF_RX7_43 rfl rfl dX7_cell_29 ?_
      refine p_iload_n rfl dX7_cell_32 ?_
      obtain ⟨hg, hF⟩ := ok_g hF
      refine p_iald rfl (inb_in hg) dX7_cell_33 ?_
      refine p_if_lt (tgt := 53) dX7_cell_34 (by decide) (fun hc => ?_) (fun hc => ?_)
      · have hF := ok_t hc hF
        exact p_lv [0, 1, 2] rfl (b_X7_cell_53 hd  _ _ _ hF)
      · have hF := ok_f hc hF
        refine p_aload_n rfl dX7_cell_37 ?_
        refine p_getR (c1 := 321) qF_RX7_46 rfl rfl dX7_cell_38 ?_
        refine p_iload_n rfl dX7_cell_41 ?_
        obtain ⟨hg, hF⟩ := ok_g hF
        refine p_iald rfl (inb_in hg) dX7_cell_42 ?_
        refine p_iload_n rfl dX7_cell_43 ?_
        refine p_icmp_eq (tgt := 53) dX7_cell_44 (by decide) (fun hc => ?_) (fun hc => ?_)
        · have hF := ok_t hc hF
          exact p_lv [0, 1, 2] rfl (b_X7_cell_53 hd  _ _ _ hF)
        · have hF := ok_f hc hF
          refine p_aload_n rfl dX7_cell_47 ?_
          refine p_iconst (v := 2) (by decide) dX7_cell_48 ?_
          refine p_callV (c0 := 300) (av := [.int _]) qV_RX7_253 rfl rfl rfl rfl (Nat.le_of_ble_eq_true rfl) (Nat.le_of_ble_eq_true rfl) dX7_cell_49 (tX7_failedLong (by omega) (ok_b hF)) (fun r0 s14 hF => ?_)
          obtain ⟨r13, rfl, hF⟩ := hF
          exact p_lret rfl dX7_cell_52 (ok_r (j := jL) hF)
    · have hF := ok_t hc hF
      exact p_lv [] rfl (b_X7_cell_24 hd  _ hF)
theorem b_X7_copy_14 {d : Nat} (hd : 1 ≤ d) {Q : Option Value → Hp → Prop}   (sg : Hp) (hF : ok jI (B_X7_copy_14   sg) Q) : pw tM (d + 1) mX7_copy 14 [(0, .ref 300)] [] sg Q := by
  unfold B_X7_copy_14 at hF
  refine p_aload_n rfl dX7_copy_14 ?_
  refine p_iconst (v := -1) (by decide) dX7_copy_15 ?_
  refine p_callV (c0 := 300) (av := [.int _]) qV_RX7_71 rfl rfl rfl rfl (Nat.le_of_ble_eq_true rfl) (Nat.le_of_ble_eq_true rfl) dX7_copy_16 (tX7_refused (ok_b hF)) (fun r0 s4 hF => ?_)
  obtain ⟨r3, rfl, hF⟩ := hF
  exact p_iret rfl dX7_copy_19 (ok_r (j := jI) hF)
theorem b_X7_copy_38 {d : Nat} (hd : 1 ≤ d) {Q : Option Value → Hp → Prop}   (sg : Hp) (hF : ok jI (B_X7_copy_38   sg) Q) : pw tM (d + 1) mX7_copy 38 [(0, .ref 300)] [] sg Q := by
  unfold B_X7_copy_38 at hF
  refine p_aload_n rfl dX7_copy_38 ?_
  refine p_iconst (v := 1) (by decide) dX7_copy_39 ?_
  refine p_callV (c0 := 300) (av := [.int _]) qV_RX7_75 rfl rfl rfl rfl (Nat.le_of_ble_eq_true rfl) (Nat.le_of_ble_eq_true rfl) dX7_copy_40 (tX7_failed (ok_b hF)) (fun r0 s8 hF => ?_)
  obtain ⟨r7, rfl, hF⟩ := hF
  exact p_iret rfl dX7_copy_43 (ok_r (j := jI) hF)
theorem b_X7_copy_98 {d : Nat} (hd : 1 ≤ d) {Q : Option Value → Hp → Prop}   (sg : Hp) (hF : ok jI (B_X7_copy_98   sg) Q) : pw tM (d + 1) mX7_copy 98 [(0, .ref 300)] [] sg Q := by
  unfold B_X7_copy_98 at hF
  refine p_aload_n rfl dX7_copy_98 ?_
  refine p_iconst (v := 3) (by decide) dX7_copy_99 ?_
  refine p_callV (c0 := 300) (av := [.int _]) qV_RX7_75 rfl rfl rfl rfl (Nat.le_of_ble_eq_true rfl) (Nat.le_of_ble_eq_true rfl) dX7_copy_100 (tX7_failed (ok_b hF)) (fun r0 s12 hF => ?_)
  obtain ⟨r11, rfl, hF⟩ := hF
  exact p_iret rfl dX7_copy_103 (ok_r (j := jI) hF)
theorem l_X7_copy_107 {d : Nat} (hd : 1 ≤ d) {Q : Option Value → Hp → Prop} {k141 : Int32 → Int32 → Int32 → Hp → Option (Int32 × Hp)} (hk141 : ∀ (z3 : Int32) (z4 : Int32) (z5 : Int32) (s2 : Hp), ok jI (k141 z3 z4 z5 s2) Q → pw tM (d + 1) mX7_copy 141 [(0, .ref 300), (3, .int z3), (4, .int z4), (5, .int z5)] [] s2 Q) : ∀ (n : Nat) (v1 : Int32) (v2 : Int32) (v3 : Int32) (v4 : Int32) (v5 : Int32) (v6 : Int32) (sg : Hp), ok jI (L_X7_copy_107 k141 n v1 v2 v3 v4 v5 v6 sg) Q → pw tM (d + 1) mX7_copy 107 [(0, .ref 300), (1, .int v1), (2, .int v2), (3, .int v3), (4, .int v4), (5, .int v5), (6, .int v6)] [] sg Q := by
  intro n
  induction n with
  | zero =>
    intro v1 v2 v3 v4 v5 v6 sg hF
    obtain ⟨_, _, h9, _⟩ := hF
    cases h9
  | succ n ih =>
    intro v1 v2 v3 v4 v5 v6 sg hF
    refine p_iload rfl dX7_copy_107 ?_
    refine p_iload rfl dX7_copy_109 ?_
    refine p_icmp_ge (tgt := 141) dX7_copy_111 (by decide) (fun hc => ?_) (fun hc => ?_)
    · have hF := ok_t hc hF
      exact p_lv [0, 3, 4, 5] rfl (hk141 _ _ _ _ hF)
    · have hF := ok_f hc hF
      refine p_aload_n rfl dX7_copy_114 ?_
      refine p_getR (c1 := 323) qF_RX7_52 rfl rfl dX7_copy_115 ?_
      refine p_iload rfl dX7_copy_118 ?_
      refine p_aload_n rfl dX7_copy_120 ?_
      refine p_getR (c1 := 322) qF_RX7_49 rfl rfl dX7_copy_121 ?_
      refine p_bipush (v := 60) (by decide) dX7_copy_124 ?_
      refine p_iload_n rfl dX7_copy_126 ?_
      refine p_imul dX7_copy_127 ?_
      refine p_iload_n rfl dX7_copy_128 ?_
      refine p_iadd dX7_copy_129 ?_
      refine p_iload rfl dX7_copy_130 ?_
      refine p_iadd dX7_copy_132 ?_
      obtain ⟨hg, hF⟩ := ok_g hF
      refine p_iald rfl (inb_in hg) dX7_copy_133 ?_
      obtain ⟨hg, hF⟩ := ok_g hF
      refine p_iast rfl (inb_in hg) dX7_copy_134 ?_
      refine p_iinc (w := 1) (by decide) rfl (Nat.le_of_ble_eq_true rfl) rfl dX7_copy_135 ?_
      refine p_goto (tgt := 107) dX7_copy_138 (by decide) ?_
      exact p_lv [0, 1, 2, 3, 4, 5, 6] rfl (ih _ _ _ _ _ _ _ hF)
theorem l_X7_copy_144 {d : Nat} (hd : 1 ≤ d) {Q : Option Value → Hp → Prop} {k179 : Int32 → Hp → Option (Int32 × Hp)} (hk179 : ∀ (z5 : Int32) (s2 : Hp), ok jI (k179 z5 s2) Q → pw tM (d + 1) mX7_copy 179 [(0, .ref 300), (5, .int z5)] [] s2 Q) : ∀ (n : Nat) (v3 : Int32) (v4 : Int32) (v5 : Int32) (v6 : Int32) (sg : Hp), ok jI (L_X7_copy_144 k179 n v3 v4 v5 v6 sg) Q → pw tM (d + 1) mX7_copy 144 [(0, .ref 300), (3, .int v3), (4, .int v4), (5, .int v5), (6, .int v6)] [] sg Q := by
  intro n
  induction n with
  | zero =>
    intro v3 v4 v5 v6 sg hF
    obtain ⟨_, _, h9, _⟩ := hF
    cases h9
  | succ n ih =>
    intro v3 v4 v5 v6 sg hF
    refine p_iload rfl dX7_copy_144 ?_
    refine p_iload rfl dX7_copy_146 ?_
    refine p_icmp_ge (tgt := 179) dX7_copy_148 (by decide) (fun hc => ?_) (fun hc => ?_)
    · have hF := ok_t hc hF
      exact p_lv [0, 5] rfl (hk179 _ _ hF)
    · have hF := ok_f hc hF
      refine p_aload_n rfl dX7_copy_151 ?_
      refine p_getR (c1 := 322) qF_RX7_49 rfl rfl dX7_copy_152 ?_
      refine p_bipush (v := 60) (by decide) dX7_copy_155 ?_
      refine p_iload_n rfl dX7_copy_157 ?_
      refine p_imul dX7_copy_158 ?_
      refine p_iload rfl dX7_copy_159 ?_
      refine p_iadd dX7_copy_161 ?_
      refine p_iload rfl dX7_copy_162 ?_
      refine p_iadd dX7_copy_164 ?_
      refine p_aload_n rfl dX7_copy_165 ?_
      refine p_getR (c1 := 323) qF_RX7_52 rfl rfl dX7_copy_166 ?_
      refine p_iload rfl dX7_copy_169 ?_
      obtain ⟨hg, hF⟩ := ok_g hF
      refine p_iald rfl (inb_in hg) dX7_copy_171 ?_
      obtain ⟨hg, hF⟩ := ok_g hF
      refine p_iast rfl (inb_in hg) dX7_copy_172 ?_
      refine p_iinc (w := 1) (by decide) rfl (Nat.le_of_ble_eq_true rfl) rfl dX7_copy_173 ?_
      refine p_goto (tgt := 144) dX7_copy_176 (by decide) ?_
      exact p_lv [0, 3, 4, 5, 6] rfl (ih _ _ _ _ _ hF)
theorem tX7_copy {d : Nat} (hd : 2 ≤ d) {Q : Option Value → Hp → Prop} {a1 : Int32} {a2 : Int32} {a3 : Int32} {a4 : Int32} {a5 : Int32} {sg : Hp} (hF : ok jI (fX7_copy a1 a2 a3 a4 a5 sg) Q) : pw tM d mX7_copy 0 (lv_args 0 [.ref 300, .int a1, .int a2, .int a3, .int a4, .int a5]) [] sg Q := by
  unfold fX7_copy at hF
  obtain ⟨d, rfl⟩ : ∃ e, d = e + 1 := ⟨d - 1, by omega⟩
  have hd : 1 ≤ d := by omega
  show pw _ _ _ _ [(0, .ref 300), (1, .int a1), (2, .int a2), (3, .int a3), (4, .int a4), (5, .int a5)] [] _ _
  refine p_iload_n rfl dX7_copy_0 ?_
  refine p_callS (av := [.int _]) qS_RX7_96 rfl (Nat.le_of_ble_eq_true rfl) (Nat.le_of_ble_eq_true rfl) dX7_copy_1 (tX7_noSheet (by omega) (ok_b hF)) (fun r0 s2 hF => ?_)
  obtain ⟨r1, rfl, hF⟩ := hF
  refine p_if_ne (tgt := 14) dX7_copy_4 (by decide) (fun hc => ?_) (fun hc => ?_)
  · have hF := ok_f hc hF
    exact p_lv [0] rfl (b_X7_copy_14 hd  _ hF)
  · have hF := ok_t hc hF
    refine p_iload_n rfl dX7_copy_7 ?_
    refine p_callS (av := [.int _]) qS_RX7_96 rfl (Nat.le_of_ble_eq_true rfl) (Nat.le_of_ble_eq_true rfl) dX7_copy_8 (tX7_noSheet (by omega) (ok_b hF)) (fun r0 s6 hF => ?_)
    obtain ⟨r5, rfl, hF⟩ := hF
    refine p_if_eq (tgt := 20) dX7_copy_11 (by decide) (fun hc => ?_) (fun hc => ?_)
    · have hF := ok_t hc hF
      refine p_aload_n rfl dX7_copy_20 ?_
      refine p_getR (c1 := 320) qF_RX7_43 rfl rfl dX7_copy_21 ?_
      refine p_iload_n rfl dX7_copy_24 ?_
      obtain ⟨hg, hF⟩ := ok_g hF
      refine p_iald rfl (inb_in hg) dX7_copy_25 ?_
      refine p_if_lt (tgt := 38) dX7_copy_26 (by decide) (fun hc => ?_) (fun hc => ?_)
      · have hF := ok_t hc hF
        exact p_lv [0] rfl (b_X7_copy_38 hd  _ hF)
      · have hF := ok_f hc hF
        refine p_aload_n rfl dX7_copy_29 ?_
        refine p_getR (c1 := 320) qF_RX7_43 rfl rfl dX7_copy_30 ?_
        refine p_iload_n rfl dX7_copy_33 ?_
        obtain ⟨hg, hF⟩ := ok_g hF
        refine p_iald rfl (inb_in hg) dX7_copy_34 ?_
        refine p_if_ge (tgt := 44) dX7_copy_35 (by decide) (fun hc => ?_) (fun hc => ?_)
        · have hF := ok_t hc hF
          refine p_aload_n rfl dX7_copy_44 ?_
          refine p_getR (c1 := 321) qF_RX7_46 rfl rfl dX7_copy_45 ?_
          refine p_iload_n rfl dX7_copy_48 ?_
          obtain ⟨hg, hF⟩ := ok_g hF
          refine p_iald rfl (inb_in hg) dX7_copy_49 ?_
          refine p_aload_n rfl dX7_copy_50 ?_
          refine p_getR (c1 := 321) qF_RX7_46 rfl rfl dX7_copy_51 ?_
          refine p_iload_n rfl dX7_copy_54 ?_
          obtain ⟨hg, hF⟩ := ok_g hF
          refine p_iald rfl (inb_in hg) dX7_copy_55 ?_
          refine p_icmp_eq (tgt := 65) dX7_copy_56 (by decide) (fun hc => ?_) (fun hc => ?_)
          · have hF := ok_t hc hF
            refine p_iload_n rfl dX7_copy_65 ?_
            refine p_iload rfl dX7_copy_66 ?_
            refine p_i2l dX7_copy_68 ?_
            refine p_aload_n rfl dX7_copy_69 ?_
            refine p_getR (c1 := 320) qF_RX7_43 rfl rfl dX7_copy_70 ?_
            refine p_iload_n rfl dX7_copy_73 ?_
            obtain ⟨hg, hF⟩ := ok_g hF
            refine p_iald rfl (inb_in hg) dX7_copy_74 ?_
            refine p_callS (av := [.int _, .long _, .int _]) qS_RX7_78 rfl (Nat.le_of_ble_eq_true rfl) (Nat.le_of_ble_eq_true rfl) dX7_copy_75 (tX7_isBeyond (ok_b hF)) (fun r0 s10 hF => ?_)
            obtain ⟨r9, rfl, hF⟩ := hF
            refine p_if_ne (tgt := 98) dX7_copy_78 (by decide) (fun hc => ?_) (fun hc => ?_)
            · have hF := ok_f hc hF
              exact p_lv [0] rfl (b_X7_copy_98 hd  _ hF)
            · have hF := ok_t hc hF
              refine p_iload rfl dX7_copy_81 ?_
              refine p_iload rfl dX7_copy_83 ?_
              refine p_i2l dX7_copy_85 ?_
              refine p_aload_n rfl dX7_copy_86 ?_
              refine p_getR (c1 := 320) qF_RX7_43 rfl rfl dX7_copy_87 ?_
              refine p_iload_n rfl dX7_copy_90 ?_
              obtain ⟨hg, hF⟩ := ok_g hF
              refine p_iald rfl (inb_in hg) dX7_copy_91 ?_
              refine p_callS (av := [.int _, .long _, .int _]) qS_RX7_78 rfl (Nat.le_of_ble_eq_true rfl) (Nat.le_of_ble_eq_true rfl) dX7_copy_92 (tX7_isBeyond (ok_b hF)) (fun r0 s14 hF => ?_)
              obtain ⟨r13, rfl, hF⟩ := hF
              refine p_if_eq (tgt := 104) dX7_copy_95 (by decide) (fun hc => ?_) (fun hc => ?_)
              · have hF := ok_t hc hF
                refine p_iconst (v := 0) (by decide) dX7_copy_104 ?_
                refine p_istore (Nat.le_of_ble_eq_true rfl) rfl dX7_copy_105 ?_
                refine p_lv [0, 1, 2, 3, 4, 5, 6] rfl (l_X7_copy_107 hd ?_ 200 _ _ _ _ _ _ _ hF)
                intro w15_3 w15_4 w15_5 s16 hF
                refine p_iconst (v := 0) (by decide) dX7_copy_141 ?_
                refine p_istore (Nat.le_of_ble_eq_true rfl) rfl dX7_copy_142 ?_
                refine p_lv [0, 3, 4, 5, 6] rfl (l_X7_copy_144 hd ?_ 200 _ _ _ _ _ hF)
                intro w17_5 s18 hF
                refine p_aload_n rfl dX7_copy_179 ?_
                refine p_iload rfl dX7_copy_180 ?_
                refine p_callV (c0 := 300) (av := [.int _]) qV_RX7_71 rfl rfl rfl rfl (Nat.le_of_ble_eq_true rfl) (Nat.le_of_ble_eq_true rfl) dX7_copy_182 (tX7_refused (ok_b hF)) (fun r0 s20 hF => ?_)
                obtain ⟨r19, rfl, hF⟩ := hF
                exact p_iret rfl dX7_copy_185 (ok_r (j := jI) hF)
              · have hF := ok_f hc hF
                exact p_lv [0] rfl (b_X7_copy_98 hd  _ hF)
          · have hF := ok_f hc hF
            refine p_aload_n rfl dX7_copy_59 ?_
            refine p_iconst (v := 2) (by decide) dX7_copy_60 ?_
            refine p_callV (c0 := 300) (av := [.int _]) qV_RX7_75 rfl rfl rfl rfl (Nat.le_of_ble_eq_true rfl) (Nat.le_of_ble_eq_true rfl) dX7_copy_61 (tX7_failed (ok_b hF)) (fun r0 s22 hF => ?_)
            obtain ⟨r21, rfl, hF⟩ := hF
            exact p_iret rfl dX7_copy_64 (ok_r (j := jI) hF)
        · have hF := ok_f hc hF
          exact p_lv [0] rfl (b_X7_copy_38 hd  _ hF)
    · have hF := ok_f hc hF
      exact p_lv [0] rfl (b_X7_copy_14 hd  _ hF)
theorem tX7_traced {d : Nat} {Q : Option Value → Hp → Prop} {a1 : Int32} {sg : Hp} (hF : ok jV (fX7_traced a1 sg) Q) : pw tM d mX7_traced 0 (lv_args 0 [.ref 300, .int a1]) [] sg Q := by
  unfold fX7_traced at hF
  show pw _ _ _ _ [(0, .ref 300), (1, .int a1)] [] _ _
  refine p_aload_n rfl dX7_traced_0 ?_
  refine p_bipush (v := 31) (by decide) dX7_traced_1 ?_
  refine p_aload_n rfl dX7_traced_3 ?_
  refine p_getI qF_RX7_257 rfl rfl dX7_traced_4 ?_
  refine p_imul dX7_traced_7 ?_
  refine p_iload_n rfl dX7_traced_8 ?_
  refine p_iadd dX7_traced_9 ?_
  refine p_put qF_RX7_257 qP_6_24 rfl rfl rfl rfl dX7_traced_10 ?_
  exact p_vret rfl dX7_traced_13 (ok_r (j := jV) hF)
theorem b_X7_tell_87 {d : Nat} (hd : 1 ≤ d) {Q : Option Value → Hp → Prop}  (vk0 : Int32) (sg : Hp) (hF : ok jI (B_X7_tell_87  vk0 sg) Q) : pw tM (d + 1) mX7_tell 87 [] [.int vk0] sg Q := by
  unfold B_X7_tell_87 at hF
  exact p_iret rfl dX7_tell_87 (ok_r (j := jI) hF)
theorem b_X7_tell_51 {d : Nat} (hd : 1 ≤ d) {Q : Option Value → Hp → Prop}  (v1 : Int32) (v2 : Int32) (sg : Hp) (hF : ok jI (B_X7_tell_51  v1 v2 sg) Q) : pw tM (d + 1) mX7_tell 51 [(0, .ref 300), (1, .int v1), (2, .int v2)] [] sg Q := by
  unfold B_X7_tell_51 at hF
  refine p_aload_n rfl dX7_tell_51 ?_
  refine p_iload_n rfl dX7_tell_52 ?_
  refine p_bipush (v := 10) (by decide) dX7_tell_53 ?_
  refine p_callV (c0 := 300) (av := [.int _, .int _]) qV_RX7_108 rfl rfl rfl rfl (Nat.le_of_ble_eq_true rfl) (Nat.le_of_ble_eq_true rfl) dX7_tell_55 (tX7_of (ok_b hF)) (fun r0 s6 hF => ?_)
  obtain ⟨r5, rfl, hF⟩ := hF
  refine p_istore_n (Nat.le_of_ble_eq_true rfl) rfl dX7_tell_58 ?_
  refine p_iload_n rfl dX7_tell_59 ?_
  refine p_if_ne (tgt := 67) dX7_tell_60 (by decide) (fun hc => ?_) (fun hc => ?_)
  · have hF := ok_f hc hF
    refine p_iload_n rfl dX7_tell_67 ?_
    refine p_iconst (v := 1) (by decide) dX7_tell_68 ?_
    refine p_icmp_ne (tgt := 80) dX7_tell_69 (by decide) (fun hc => ?_) (fun hc => ?_)
    · have hF := ok_f hc hF
      refine p_iconst (v := 2) (by decide) dX7_tell_80 ?_
      refine p_iload_n rfl dX7_tell_81 ?_
      refine p_imul dX7_tell_82 ?_
      refine p_ldcw wd_1146 dX7_tell_83 ?_
      refine p_iadd dX7_tell_86 ?_
      exact p_lv [] rfl (b_X7_tell_87 hd  _ _ hF)
    · have hF := ok_t hc hF
      refine p_iload_n rfl dX7_tell_72 ?_
      refine p_ldcw wd_1146 dX7_tell_73 ?_
      refine p_iadd dX7_tell_76 ?_
      refine p_goto (tgt := 87) dX7_tell_77 (by decide) ?_
      exact p_lv [] rfl (b_X7_tell_87 hd  _ _ hF)
  · have hF := ok_t hc hF
    refine p_iload_n rfl dX7_tell_63 ?_
    refine p_goto (tgt := 87) dX7_tell_64 (by decide) ?_
    exact p_lv [] rfl (b_X7_tell_87 hd  _ _ hF)
theorem b_X7_tell_36 {d : Nat} (hd : 1 ≤ d) {Q : Option Value → Hp → Prop}  (v1 : Int32) (v2 : Int32) (sg : Hp) (hF : ok jI (B_X7_tell_36  v1 v2 sg) Q) : pw tM (d + 1) mX7_tell 36 [(0, .ref 300), (1, .int v1), (2, .int v2)] [] sg Q := by
  unfold B_X7_tell_36 at hF
  refine p_aload_n rfl dX7_tell_36 ?_
  refine p_iconst (v := 1) (by decide) dX7_tell_37 ?_
  refine p_callV (c0 := 300) (av := [.int _]) qV_RX7_260 rfl rfl rfl rfl (Nat.le_of_ble_eq_true rfl) (Nat.le_of_ble_eq_true rfl) dX7_tell_38 (tX7_traced (ok_b hF)) (fun r0 s4 hF => ?_)
  obtain ⟨r3, rfl, hF⟩ := hF
  refine p_iload_n rfl dX7_tell_41 ?_
  refine p_iconst (v := 2) (by decide) dX7_tell_42 ?_
  refine p_icmp_ne (tgt := 51) dX7_tell_43 (by decide) (fun hc => ?_) (fun hc => ?_)
  · have hF := ok_f hc hF
    exact p_lv [0, 1, 2] rfl (b_X7_tell_51 hd  _ _ _ hF)
  · have hF := ok_t hc hF
    refine p_aload_n rfl dX7_tell_46 ?_
    refine p_iconst (v := 1) (by decide) dX7_tell_47 ?_
    refine p_callV (c0 := 300) (av := [.int _]) qV_RX7_260 rfl rfl rfl rfl (Nat.le_of_ble_eq_true rfl) (Nat.le_of_ble_eq_true rfl) dX7_tell_48 (tX7_traced (ok_b hF)) (fun r0 s8 hF => ?_)
    obtain ⟨r7, rfl, hF⟩ := hF
    exact p_lv [0, 1, 2] rfl (b_X7_tell_51 hd  _ _ _ hF)
theorem b_X7_tell_27 {d : Nat} (hd : 1 ≤ d) {Q : Option Value → Hp → Prop}  (v1 : Int32) (v2 : Int32) (sg : Hp) (hF : ok jI (B_X7_tell_27  v1 v2 sg) Q) : pw tM (d + 1) mX7_tell 27 [(0, .ref 300), (1, .int v1), (2, .int v2)] [] sg Q := by
  unfold B_X7_tell_27 at hF
  refine p_iload_n rfl dX7_tell_27 ?_
  refine p_if_le (tgt := 36) dX7_tell_28 (by decide) (fun hc => ?_) (fun hc => ?_)
  · have hF := ok_t hc hF
    exact p_lv [0, 1, 2] rfl (b_X7_tell_36 hd  _ _ _ hF)
  · have hF := ok_f hc hF
    refine p_aload_n rfl dX7_tell_31 ?_
    refine p_iconst (v := 2) (by decide) dX7_tell_32 ?_
    refine p_callV (c0 := 300) (av := [.int _]) qV_RX7_260 rfl rfl rfl rfl (Nat.le_of_ble_eq_true rfl) (Nat.le_of_ble_eq_true rfl) dX7_tell_33 (tX7_traced (ok_b hF)) (fun r0 s10 hF => ?_)
    obtain ⟨r9, rfl, hF⟩ := hF
    exact p_lv [0, 1, 2] rfl (b_X7_tell_36 hd  _ _ _ hF)
theorem tX7_tell {d : Nat} (hd : 2 ≤ d) {Q : Option Value → Hp → Prop} {a1 : Int32} {sg : Hp} (hF : ok jI (fX7_tell a1 sg) Q) : pw tM d mX7_tell 0 (lv_args 0 [.ref 300, .int a1]) [] sg Q := by
  unfold fX7_tell at hF
  obtain ⟨d, rfl⟩ : ∃ e, d = e + 1 := ⟨d - 1, by omega⟩
  have hd : 1 ≤ d := by omega
  show pw _ _ _ _ [(0, .ref 300), (1, .int a1)] [] _ _
  refine p_aload_n rfl dX7_tell_0 ?_
  refine p_iload_n rfl dX7_tell_1 ?_
  refine p_callV (c0 := 300) (av := [.int _]) qV_RX7_161 rfl rfl rfl rfl (Nat.le_of_ble_eq_true rfl) (Nat.le_of_ble_eq_true rfl) dX7_tell_2 (tX7_noStair (by omega) (ok_b hF)) (fun r0 s2 hF => ?_)
  obtain ⟨r1, rfl, hF⟩ := hF
  refine p_if_eq (tgt := 10) dX7_tell_5 (by decide) (fun hc => ?_) (fun hc => ?_)
  · have hF := ok_t hc hF
    refine p_aload_n rfl dX7_tell_10 ?_
    refine p_getR (c1 := 302) qF_RX7_7 rfl rfl dX7_tell_11 ?_
    refine p_iload_n rfl dX7_tell_14 ?_
    obtain ⟨hg, hF⟩ := ok_g hF
    refine p_iald rfl (inb_in hg) dX7_tell_15 ?_
    refine p_istore_n (Nat.le_of_ble_eq_true rfl) rfl dX7_tell_16 ?_
    refine p_iload_n rfl dX7_tell_17 ?_
    refine p_iconst (v := 2) (by decide) dX7_tell_18 ?_
    refine p_icmp_ne (tgt := 27) dX7_tell_19 (by decide) (fun hc => ?_) (fun hc => ?_)
    · have hF := ok_f hc hF
      exact p_lv [0, 1, 2] rfl (b_X7_tell_27 hd  _ _ _ hF)
    · have hF := ok_t hc hF
      refine p_aload_n rfl dX7_tell_22 ?_
      refine p_iconst (v := 3) (by decide) dX7_tell_23 ?_
      refine p_callV (c0 := 300) (av := [.int _]) qV_RX7_260 rfl rfl rfl rfl (Nat.le_of_ble_eq_true rfl) (Nat.le_of_ble_eq_true rfl) dX7_tell_24 (tX7_traced (ok_b hF)) (fun r0 s12 hF => ?_)
      obtain ⟨r11, rfl, hF⟩ := hF
      exact p_lv [0, 1, 2] rfl (b_X7_tell_27 hd  _ _ _ hF)
  · have hF := ok_f hc hF
    refine p_iconst (v := -1) (by decide) dX7_tell_8 ?_
    exact p_iret rfl dX7_tell_9 (ok_r (j := jI) hF)
theorem b_X7_draw_45 {d : Nat} (hd : 1 ≤ d) {Q : Option Value → Hp → Prop}  (vk0 : Int32) (sg : Hp) (hF : ok jI (B_X7_draw_45  vk0 sg) Q) : pw tM (d + 1) mX7_draw 45 [] [.int vk0] sg Q := by
  unfold B_X7_draw_45 at hF
  exact p_iret rfl dX7_draw_45 (ok_r (j := jI) hF)
theorem b_X7_draw_26 {d : Nat} (hd : 1 ≤ d) {Q : Option Value → Hp → Prop}  (v1 : Int32) (vk0 : Int32) (sg : Hp) (hF : ok jI (B_X7_draw_26  v1 vk0 sg) Q) : pw tM (d + 1) mX7_draw 26 [(0, .ref 300), (1, .int v1)] [.int vk0, .ref 300] sg Q := by
  unfold B_X7_draw_26 at hF
  refine p_callV (c0 := 300) (av := [.int _]) qV_RX7_260 rfl rfl rfl rfl (Nat.le_of_ble_eq_true rfl) (Nat.le_of_ble_eq_true rfl) dX7_draw_26 (tX7_traced (ok_b hF)) (fun r0 s4 hF => ?_)
  obtain ⟨r3, rfl, hF⟩ := hF
  refine p_aload_n rfl dX7_draw_29 ?_
  refine p_getR (c1 := 302) qF_RX7_7 rfl rfl dX7_draw_30 ?_
  refine p_iload_n rfl dX7_draw_33 ?_
  obtain ⟨hg, hF⟩ := ok_g hF
  refine p_iald rfl (inb_in hg) dX7_draw_34 ?_
  refine p_iconst (v := 2) (by decide) dX7_draw_35 ?_
  refine p_icmp_ne (tgt := 44) dX7_draw_36 (by decide) (fun hc => ?_) (fun hc => ?_)
  · have hF := ok_f hc hF
    refine p_iload_n rfl dX7_draw_44 ?_
    exact p_lv [] rfl (b_X7_draw_45 hd  _ _ hF)
  · have hF := ok_t hc hF
    refine p_bipush (v := 60) (by decide) dX7_draw_39 ?_
    refine p_goto (tgt := 45) dX7_draw_41 (by decide) ?_
    exact p_lv [] rfl (b_X7_draw_45 hd  _ _ hF)
theorem tX7_draw {d : Nat} (hd : 2 ≤ d) {Q : Option Value → Hp → Prop} {a1 : Int32} {sg : Hp} (hF : ok jI (fX7_draw a1 sg) Q) : pw tM d mX7_draw 0 (lv_args 0 [.ref 300, .int a1]) [] sg Q := by
  unfold fX7_draw at hF
  obtain ⟨d, rfl⟩ : ∃ e, d = e + 1 := ⟨d - 1, by omega⟩
  have hd : 1 ≤ d := by omega
  show pw _ _ _ _ [(0, .ref 300), (1, .int a1)] [] _ _
  refine p_aload_n rfl dX7_draw_0 ?_
  refine p_iload_n rfl dX7_draw_1 ?_
  refine p_callV (c0 := 300) (av := [.int _]) qV_RX7_161 rfl rfl rfl rfl (Nat.le_of_ble_eq_true rfl) (Nat.le_of_ble_eq_true rfl) dX7_draw_2 (tX7_noStair (by omega) (ok_b hF)) (fun r0 s2 hF => ?_)
  obtain ⟨r1, rfl, hF⟩ := hF
  refine p_if_eq (tgt := 10) dX7_draw_5 (by decide) (fun hc => ?_) (fun hc => ?_)
  · have hF := ok_t hc hF
    refine p_aload_n rfl dX7_draw_10 ?_
    refine p_aload_n rfl dX7_draw_11 ?_
    refine p_getR (c1 := 302) qF_RX7_7 rfl rfl dX7_draw_12 ?_
    refine p_iload_n rfl dX7_draw_15 ?_
    obtain ⟨hg, hF⟩ := ok_g hF
    refine p_iald rfl (inb_in hg) dX7_draw_16 ?_
    refine p_iconst (v := 2) (by decide) dX7_draw_17 ?_
    refine p_icmp_ne (tgt := 25) dX7_draw_18 (by decide) (fun hc => ?_) (fun hc => ?_)
    · have hF := ok_f hc hF
      refine p_iconst (v := 4) (by decide) dX7_draw_25 ?_
      exact p_lv [0, 1] rfl (b_X7_draw_26 hd  _ _ _ hF)
    · have hF := ok_t hc hF
      refine p_iconst (v := 5) (by decide) dX7_draw_21 ?_
      refine p_goto (tgt := 26) dX7_draw_22 (by decide) ?_
      exact p_lv [0, 1] rfl (b_X7_draw_26 hd  _ _ _ hF)
  · have hF := ok_f hc hF
    refine p_iconst (v := -1) (by decide) dX7_draw_8 ?_
    exact p_iret rfl dX7_draw_9 (ok_r (j := jI) hF)
theorem b_X7_as_56 {d : Nat} (hd : 1 ≤ d) {Q : Option Value → Hp → Prop}  (vk0 : Int32) (sg : Hp) (hF : ok jI (B_X7_as_56  vk0 sg) Q) : pw tM (d + 1) mX7_as 56 [] [.int vk0] sg Q := by
  unfold B_X7_as_56 at hF
  exact p_iret rfl dX7_as_56 (ok_r (j := jI) hF)
theorem tX7_as {d : Nat} (hd : 2 ≤ d) {Q : Option Value → Hp → Prop} {a1 : Int32} {a2 : Int32} {sg : Hp} (hF : ok jI (fX7_as a1 a2 sg) Q) : pw tM d mX7_as 0 (lv_args 0 [.ref 300, .int a1, .int a2]) [] sg Q := by
  unfold fX7_as at hF
  obtain ⟨d, rfl⟩ : ∃ e, d = e + 1 := ⟨d - 1, by omega⟩
  have hd : 1 ≤ d := by omega
  show pw _ _ _ _ [(0, .ref 300), (1, .int a1), (2, .int a2)] [] _ _
  refine p_aload_n rfl dX7_as_0 ?_
  refine p_iload_n rfl dX7_as_1 ?_
  refine p_callV (c0 := 300) (av := [.int _]) qV_RX7_161 rfl rfl rfl rfl (Nat.le_of_ble_eq_true rfl) (Nat.le_of_ble_eq_true rfl) dX7_as_2 (tX7_noStair (by omega) (ok_b hF)) (fun r0 s2 hF => ?_)
  obtain ⟨r1, rfl, hF⟩ := hF
  refine p_if_eq (tgt := 14) dX7_as_5 (by decide) (fun hc => ?_) (fun hc => ?_)
  · have hF := ok_t hc hF
    refine p_iload_n rfl dX7_as_14 ?_
    refine p_i2l dX7_as_15 ?_
    refine p_lconst (v := 0) (by decide) dX7_as_16 ?_
    refine p_ldc2 wd_864 dX7_as_17 ?_
    refine p_callS (av := [.long _, .long _, .long _]) qS_RX7_67 rfl (Nat.le_of_ble_eq_true rfl) (Nat.le_of_ble_eq_true rfl) dX7_as_20 (tX7_in (ok_b hF)) (fun r0 s4 hF => ?_)
    obtain ⟨r3, rfl, hF⟩ := hF
    refine p_if_ne (tgt := 33) dX7_as_23 (by decide) (fun hc => ?_) (fun hc => ?_)
    · have hF := ok_f hc hF
      refine p_aload_n rfl dX7_as_33 ?_
      refine p_getR (c1 := 302) qF_RX7_7 rfl rfl dX7_as_34 ?_
      refine p_iload_n rfl dX7_as_37 ?_
      obtain ⟨hg, hF⟩ := ok_g hF
      refine p_iald rfl (inb_in hg) dX7_as_38 ?_
      refine p_iload_n rfl dX7_as_39 ?_
      refine p_icmp_lt (tgt := 51) dX7_as_40 (by decide) (fun hc => ?_) (fun hc => ?_)
      · have hF := ok_t hc hF
        refine p_aload_n rfl dX7_as_51 ?_
        refine p_iconst (v := 2) (by decide) dX7_as_52 ?_
        refine p_callV (c0 := 300) (av := [.int _]) qV_RX7_75 rfl rfl rfl rfl (Nat.le_of_ble_eq_true rfl) (Nat.le_of_ble_eq_true rfl) dX7_as_53 (tX7_failed (ok_b hF)) (fun r0 s6 hF => ?_)
        obtain ⟨r5, rfl, hF⟩ := hF
        exact p_lv [] rfl (b_X7_as_56 hd  _ _ hF)
      · have hF := ok_f hc hF
        refine p_aload_n rfl dX7_as_43 ?_
        refine p_iconst (v := 1) (by decide) dX7_as_44 ?_
        refine p_callV (c0 := 300) (av := [.int _]) qV_RX7_71 rfl rfl rfl rfl (Nat.le_of_ble_eq_true rfl) (Nat.le_of_ble_eq_true rfl) dX7_as_45 (tX7_refused (ok_b hF)) (fun r0 s8 hF => ?_)
        obtain ⟨r7, rfl, hF⟩ := hF
        refine p_goto (tgt := 56) dX7_as_48 (by decide) ?_
        exact p_lv [] rfl (b_X7_as_56 hd  _ _ hF)
    · have hF := ok_t hc hF
      refine p_aload_n rfl dX7_as_26 ?_
      refine p_bipush (v := -2) (by decide) dX7_as_27 ?_
      refine p_callV (c0 := 300) (av := [.int _]) qV_RX7_71 rfl rfl rfl rfl (Nat.le_of_ble_eq_true rfl) (Nat.le_of_ble_eq_true rfl) dX7_as_29 (tX7_refused (ok_b hF)) (fun r0 s10 hF => ?_)
      obtain ⟨r9, rfl, hF⟩ := hF
      exact p_iret rfl dX7_as_32 (ok_r (j := jI) hF)
  · have hF := ok_f hc hF
    refine p_aload_n rfl dX7_as_8 ?_
    refine p_iconst (v := -1) (by decide) dX7_as_9 ?_
    refine p_callV (c0 := 300) (av := [.int _]) qV_RX7_71 rfl rfl rfl rfl (Nat.le_of_ble_eq_true rfl) (Nat.le_of_ble_eq_true rfl) dX7_as_10 (tX7_refused (ok_b hF)) (fun r0 s12 hF => ?_)
    obtain ⟨r11, rfl, hF⟩ := hF
    exact p_iret rfl dX7_as_13 (ok_r (j := jI) hF)
theorem tX7_trace {d : Nat} {Q : Option Value → Hp → Prop}  {sg : Hp} (hF : ok jI (fX7_trace  sg) Q) : pw tM d mX7_trace 0 (lv_args 0 [.ref 300]) [] sg Q := by
  unfold fX7_trace at hF
  show pw _ _ _ _ [(0, .ref 300)] [] _ _
  refine p_aload_n rfl dX7_trace_0 ?_
  refine p_getI qF_RX7_257 rfl rfl dX7_trace_1 ?_
  exact p_iret rfl dX7_trace_4 (ok_r (j := jI) hF)
theorem tX7_fault {d : Nat} {Q : Option Value → Hp → Prop}  {sg : Hp} (hF : ok jI (fX7_fault  sg) Q) : pw tM d mX7_fault 0 (lv_args 0 [.ref 300]) [] sg Q := by
  unfold fX7_fault at hF
  show pw _ _ _ _ [(0, .ref 300)] [] _ _
  refine p_aload_n rfl dX7_fault_0 ?_
  refine p_getI qF_RX7_57 rfl rfl dX7_fault_1 ?_
  exact p_iret rfl dX7_fault_4 (ok_r (j := jI) hF)
theorem b_X7_many_25 {d : Nat} {Q : Option Value → Hp → Prop} {k4 : Int32 → Int32 → Int32 → Hp → Option (Int32 × Hp)} (hk4 : ∀ (z1 : Int32) (z2 : Int32) (z3 : Int32) (s2 : Hp), ok jI (k4 z1 z2 z3 s2) Q → pw tM d mX7_many 4 [(0, .ref 300), (1, .int z1), (2, .int z2), (3, .int z3)] [] s2 Q) (v1 : Int32) (v3 : Int32) (vk0 : Int32) (vk1 : Int32) (sg : Hp) (hF : ok jI (B_X7_many_25 k4 v1 v3 vk0 vk1 sg) Q) : pw tM d mX7_many 25 [(0, .ref 300), (1, .int v1), (3, .int v3)] [.int vk0, .int vk1] sg Q := by
  unfold B_X7_many_25 at hF
  refine p_iadd dX7_many_25 ?_
  refine p_istore_n (Nat.le_of_ble_eq_true rfl) rfl dX7_many_26 ?_
  refine p_iinc (w := 1) (by decide) rfl (Nat.le_of_ble_eq_true rfl) rfl dX7_many_27 ?_
  refine p_goto (tgt := 4) dX7_many_30 (by decide) ?_
  exact p_lv [0, 1, 2, 3] rfl (hk4 _ _ _ _ hF)
theorem l_X7_many_4 {d : Nat} {Q : Option Value → Hp → Prop} {k33 : Int32 → Int32 → Hp → Option (Int32 × Hp)} (hk33 : ∀ (z1 : Int32) (z2 : Int32) (s2 : Hp), ok jI (k33 z1 z2 s2) Q → pw tM d mX7_many 33 [(0, .ref 300), (1, .int z1), (2, .int z2)] [] s2 Q) : ∀ (n : Nat) (v1 : Int32) (v2 : Int32) (v3 : Int32) (sg : Hp), ok jI (L_X7_many_4 k33 n v1 v2 v3 sg) Q → pw tM d mX7_many 4 [(0, .ref 300), (1, .int v1), (2, .int v2), (3, .int v3)] [] sg Q := by
  intro n
  induction n with
  | zero =>
    intro v1 v2 v3 sg hF
    obtain ⟨_, _, h9, _⟩ := hF
    cases h9
  | succ n ih =>
    intro v1 v2 v3 sg hF
    refine p_iload_n rfl dX7_many_4 ?_
    refine p_bipush (v := 6) (by decide) dX7_many_5 ?_
    refine p_icmp_ge (tgt := 33) dX7_many_7 (by decide) (fun hc => ?_) (fun hc => ?_)
    · have hF := ok_t hc hF
      exact p_lv [0, 1, 2] rfl (hk33 _ _ _ hF)
    · have hF := ok_f hc hF
      refine p_iload_n rfl dX7_many_10 ?_
      refine p_aload_n rfl dX7_many_11 ?_
      refine p_getR (c1 := 311) qF_RX7_25 rfl rfl dX7_many_12 ?_
      refine p_iload_n rfl dX7_many_15 ?_
      obtain ⟨hg, hF⟩ := ok_g hF
      refine p_iald rfl (inb_in hg) dX7_many_16 ?_
      refine p_if_lt (tgt := 24) dX7_many_17 (by decide) (fun hc => ?_) (fun hc => ?_)
      · have hF := ok_t hc hF
        refine p_iconst (v := 0) (by decide) dX7_many_24 ?_
        exact p_lv [0, 1, 3] rfl (b_X7_many_25 ih _ _ _ _ _ hF)
      · have hF := ok_f hc hF
        refine p_iconst (v := 1) (by decide) dX7_many_20 ?_
        refine p_goto (tgt := 25) dX7_many_21 (by decide) ?_
        exact p_lv [0, 1, 3] rfl (b_X7_many_25 ih _ _ _ _ _ hF)
theorem b_X7_many_79 {d : Nat} {Q : Option Value → Hp → Prop}  (vk0 : Int32) (sg : Hp) (hF : ok jI (B_X7_many_79  vk0 sg) Q) : pw tM d mX7_many 79 [] [.int vk0] sg Q := by
  unfold B_X7_many_79 at hF
  exact p_iret rfl dX7_many_79 (ok_r (j := jI) hF)
theorem tX7_many {d : Nat} {Q : Option Value → Hp → Prop} {a1 : Int32} {sg : Hp} (hF : ok jI (fX7_many a1 sg) Q) : pw tM d mX7_many 0 (lv_args 0 [.ref 300, .int a1]) [] sg Q := by
  unfold fX7_many at hF
  show pw _ _ _ _ [(0, .ref 300), (1, .int a1)] [] _ _
  refine p_iconst (v := 0) (by decide) dX7_many_0 ?_
  refine p_istore_n (Nat.le_of_ble_eq_true rfl) rfl dX7_many_1 ?_
  refine p_iconst (v := 0) (by decide) dX7_many_2 ?_
  refine p_istore_n (Nat.le_of_ble_eq_true rfl) rfl dX7_many_3 ?_
  refine p_lv [0, 1, 2, 3] rfl (l_X7_many_4 ?_ 200 _ _ _ _ hF)
  intro w1_1 w1_2 s2 hF
  refine p_iload_n rfl dX7_many_33 ?_
  refine p_if_ne (tgt := 44) dX7_many_34 (by decide) (fun hc => ?_) (fun hc => ?_)
  · have hF := ok_f hc hF
    refine p_iload_n rfl dX7_many_44 ?_
    refine p_iconst (v := 1) (by decide) dX7_many_45 ?_
    refine p_icmp_ne (tgt := 56) dX7_many_46 (by decide) (fun hc => ?_) (fun hc => ?_)
    · have hF := ok_f hc hF
      refine p_iload_n rfl dX7_many_56 ?_
      refine p_iconst (v := 2) (by decide) dX7_many_57 ?_
      refine p_icmp_ne (tgt := 68) dX7_many_58 (by decide) (fun hc => ?_) (fun hc => ?_)
      · have hF := ok_f hc hF
        refine p_iload_n rfl dX7_many_68 ?_
        refine p_iconst (v := 3) (by decide) dX7_many_69 ?_
        refine p_icmp_ne (tgt := 77) dX7_many_70 (by decide) (fun hc => ?_) (fun hc => ?_)
        · have hF := ok_f hc hF
          refine p_bipush (v := -2) (by decide) dX7_many_77 ?_
          exact p_lv [] rfl (b_X7_many_79  _ _ hF)
        · have hF := ok_t hc hF
          refine p_iload_n rfl dX7_many_73 ?_
          refine p_goto (tgt := 79) dX7_many_74 (by decide) ?_
          exact p_lv [] rfl (b_X7_many_79  _ _ hF)
      · have hF := ok_t hc hF
        refine p_aload_n rfl dX7_many_61 ?_
        refine p_getI qF_RX7_238 rfl rfl dX7_many_62 ?_
        refine p_goto (tgt := 79) dX7_many_65 (by decide) ?_
        exact p_lv [] rfl (b_X7_many_79  _ _ hF)
    · have hF := ok_t hc hF
      refine p_aload_n rfl dX7_many_49 ?_
      refine p_getI qF_RX7_190 rfl rfl dX7_many_50 ?_
      refine p_goto (tgt := 79) dX7_many_53 (by decide) ?_
      exact p_lv [] rfl (b_X7_many_79  _ _ hF)
  · have hF := ok_t hc hF
    refine p_aload_n rfl dX7_many_37 ?_
    refine p_getI qF_RX7_82 rfl rfl dX7_many_38 ?_
    refine p_goto (tgt := 79) dX7_many_41 (by decide) ?_
    exact p_lv [] rfl (b_X7_many_79  _ _ hF)
