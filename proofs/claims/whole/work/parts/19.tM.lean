theorem b_X7_within_16 {d : Nat} (hd : 1 ≤ d) {Q : Option Value → Hp → Prop}   (sg : Hp) (hF : ok jI (B_X7_within_16   sg) Q) : pw tM (d + 1) mX7_within 16 [] [] sg Q := by
  unfold B_X7_within_16 at hF
  refine p_iconst (v := -1) (by decide) dX7_within_16 ?_
  exact p_iret rfl dX7_within_17 (ok_r (j := jI) hF)
theorem b_X7_within_32 {d : Nat} (hd : 1 ≤ d) {Q : Option Value → Hp → Prop}  (vk0 : Int32) (sg : Hp) (hF : ok jI (B_X7_within_32  vk0 sg) Q) : pw tM (d + 1) mX7_within 32 [] [.int vk0] sg Q := by
  unfold B_X7_within_32 at hF
  exact p_iret rfl dX7_within_32 (ok_r (j := jI) hF)
theorem tX7_within {d : Nat} (hd : 2 ≤ d) {Q : Option Value → Hp → Prop} {a1 : Int32} {a2 : Int32} {sg : Hp} (hF : ok jI (fX7_within a1 a2 sg) Q) : pw tM d mX7_within 0 (lv_args 0 [.ref 300, .int a1, .int a2]) [] sg Q := by
  unfold fX7_within at hF
  obtain ⟨d, rfl⟩ : ∃ e, d = e + 1 := ⟨d - 1, by omega⟩
  have hd : 1 ≤ d := by omega
  show pw _ _ _ _ [(0, .ref 300), (1, .int a1), (2, .int a2)] [] _ _
  refine p_aload_n rfl dX7_within_0 ?_
  refine p_iload_n rfl dX7_within_1 ?_
  refine p_callV (c0 := 300) (av := [.int _]) qV_RX7_161 rfl rfl rfl rfl (Nat.le_of_ble_eq_true rfl) (Nat.le_of_ble_eq_true rfl) dX7_within_2 (tX7_noStair (by omega) (ok_b hF)) (fun r0 s2 hF => ?_)
  obtain ⟨r1, rfl, hF⟩ := hF
  refine p_if_ne (tgt := 16) dX7_within_5 (by decide) (fun hc => ?_) (fun hc => ?_)
  · have hF := ok_f hc hF
    exact p_lv [] rfl (b_X7_within_16 hd  _ hF)
  · have hF := ok_t hc hF
    refine p_aload_n rfl dX7_within_8 ?_
    refine p_iload_n rfl dX7_within_9 ?_
    refine p_callV (c0 := 300) (av := [.int _]) qV_RX7_161 rfl rfl rfl rfl (Nat.le_of_ble_eq_true rfl) (Nat.le_of_ble_eq_true rfl) dX7_within_10 (tX7_noStair (by omega) (ok_b hF)) (fun r0 s4 hF => ?_)
    obtain ⟨r3, rfl, hF⟩ := hF
    refine p_if_eq (tgt := 18) dX7_within_13 (by decide) (fun hc => ?_) (fun hc => ?_)
    · have hF := ok_t hc hF
      refine p_aload_n rfl dX7_within_18 ?_
      refine p_iload_n rfl dX7_within_19 ?_
      refine p_iload_n rfl dX7_within_20 ?_
      refine p_callV (c0 := 300) (av := [.int _, .int _]) qV_RX7_185 rfl rfl rfl rfl (Nat.le_of_ble_eq_true rfl) (Nat.le_of_ble_eq_true rfl) dX7_within_21 (tX7_heapOf (by omega) (ok_b hF)) (fun r0 s6 hF => ?_)
      obtain ⟨r5, rfl, hF⟩ := hF
      refine p_if_ne (tgt := 31) dX7_within_24 (by decide) (fun hc => ?_) (fun hc => ?_)
      · have hF := ok_f hc hF
        refine p_iconst (v := 0) (by decide) dX7_within_31 ?_
        exact p_lv [] rfl (b_X7_within_32 hd  _ _ hF)
      · have hF := ok_t hc hF
        refine p_iconst (v := 1) (by decide) dX7_within_27 ?_
        refine p_goto (tgt := 32) dX7_within_28 (by decide) ?_
        exact p_lv [] rfl (b_X7_within_32 hd  _ _ hF)
    · have hF := ok_f hc hF
      exact p_lv [] rfl (b_X7_within_16 hd  _ hF)
theorem b_X7_noNode_17 {d : Nat} {Q : Option Value → Hp → Prop}  (vk0 : Int32) (sg : Hp) (hF : ok jI (B_X7_noNode_17  vk0 sg) Q) : pw tM (d + 1) mX7_noNode 17 [] [.int vk0] sg Q := by
  unfold B_X7_noNode_17 at hF
  obtain ⟨hg, hF⟩ := ok_g hF
  exact p_zret rfl (b01_n hg).1 dX7_noNode_17 (ok_r (j := jI) hF)
theorem tX7_noNode {d : Nat} (hd : 1 ≤ d) {Q : Option Value → Hp → Prop} {a1 : Int32} {sg : Hp} (hF : ok jI (fX7_noNode a1 sg) Q) : pw tM d mX7_noNode 0 (lv_args 0 [.int a1]) [] sg Q := by
  unfold fX7_noNode at hF
  obtain ⟨d, rfl⟩ : ∃ e, d = e + 1 := ⟨d - 1, by omega⟩
  show pw _ _ _ _ [(0, .int a1)] [] _ _
  refine p_iload_n rfl dX7_noNode_0 ?_
  refine p_i2l dX7_noNode_1 ?_
  refine p_lconst (v := 0) (by decide) dX7_noNode_2 ?_
  refine p_ldc2 wd_1001 dX7_noNode_3 ?_
  refine p_callS (av := [.long _, .long _, .long _]) qS_RX7_67 rfl (Nat.le_of_ble_eq_true rfl) (Nat.le_of_ble_eq_true rfl) dX7_noNode_6 (tX7_in (ok_b hF)) (fun r0 s2 hF => ?_)
  obtain ⟨r1, rfl, hF⟩ := hF
  refine p_if_ne (tgt := 16) dX7_noNode_9 (by decide) (fun hc => ?_) (fun hc => ?_)
  · have hF := ok_f hc hF
    refine p_iconst (v := 0) (by decide) dX7_noNode_16 ?_
    exact p_lv [] rfl (b_X7_noNode_17  _ _ hF)
  · have hF := ok_t hc hF
    refine p_iconst (v := 1) (by decide) dX7_noNode_12 ?_
    refine p_goto (tgt := 17) dX7_noNode_13 (by decide) ?_
    exact p_lv [] rfl (b_X7_noNode_17  _ _ hF)
theorem b_X7_noFlow_21 {d : Nat} {Q : Option Value → Hp → Prop}  (vk0 : Int32) (sg : Hp) (hF : ok jI (B_X7_noFlow_21  vk0 sg) Q) : pw tM (d + 1) mX7_noFlow 21 [] [.int vk0] sg Q := by
  unfold B_X7_noFlow_21 at hF
  obtain ⟨hg, hF⟩ := ok_g hF
  exact p_zret rfl (b01_n hg).1 dX7_noFlow_21 (ok_r (j := jI) hF)
theorem tX7_noFlow {d : Nat} (hd : 1 ≤ d) {Q : Option Value → Hp → Prop} {a1 : Int32} {sg : Hp} (hF : ok jI (fX7_noFlow a1 sg) Q) : pw tM d mX7_noFlow 0 (lv_args 0 [.ref 300, .int a1]) [] sg Q := by
  unfold fX7_noFlow at hF
  obtain ⟨d, rfl⟩ : ∃ e, d = e + 1 := ⟨d - 1, by omega⟩
  show pw _ _ _ _ [(0, .ref 300), (1, .int a1)] [] _ _
  refine p_iload_n rfl dX7_noFlow_0 ?_
  refine p_i2l dX7_noFlow_1 ?_
  refine p_lconst (v := 0) (by decide) dX7_noFlow_2 ?_
  refine p_aload_n rfl dX7_noFlow_3 ?_
  refine p_getI qF_RX7_190 rfl rfl dX7_noFlow_4 ?_
  refine p_i2l dX7_noFlow_7 ?_
  refine p_lconst (v := 1) (by decide) dX7_noFlow_8 ?_
  refine p_lsub dX7_noFlow_9 ?_
  refine p_callS (av := [.long _, .long _, .long _]) qS_RX7_67 rfl (Nat.le_of_ble_eq_true rfl) (Nat.le_of_ble_eq_true rfl) dX7_noFlow_10 (tX7_in (ok_b hF)) (fun r0 s2 hF => ?_)
  obtain ⟨r1, rfl, hF⟩ := hF
  refine p_if_ne (tgt := 20) dX7_noFlow_13 (by decide) (fun hc => ?_) (fun hc => ?_)
  · have hF := ok_f hc hF
    refine p_iconst (v := 0) (by decide) dX7_noFlow_20 ?_
    exact p_lv [] rfl (b_X7_noFlow_21  _ _ hF)
  · have hF := ok_t hc hF
    refine p_iconst (v := 1) (by decide) dX7_noFlow_16 ?_
    refine p_goto (tgt := 21) dX7_noFlow_17 (by decide) ?_
    exact p_lv [] rfl (b_X7_noFlow_21  _ _ hF)
theorem b_X7_serve_21 {d : Nat} (hd : 1 ≤ d) {Q : Option Value → Hp → Prop}   (sg : Hp) (hF : ok jI (B_X7_serve_21   sg) Q) : pw tM (d + 1) mX7_serve 21 [] [] sg Q := by
  unfold B_X7_serve_21 at hF
  refine p_iconst (v := -1) (by decide) dX7_serve_21 ?_
  exact p_iret rfl dX7_serve_22 (ok_r (j := jI) hF)
theorem b_X7_serve_23 {d : Nat} (hd : 1 ≤ d) {Q : Option Value → Hp → Prop}  (v1 : Int32) (v2 : Int32) (sg : Hp) (hF : ok jI (B_X7_serve_23  v1 v2 sg) Q) : pw tM (d + 1) mX7_serve 23 [(0, .ref 300), (1, .int v1), (2, .int v2)] [] sg Q := by
  unfold B_X7_serve_23 at hF
  refine p_aload_n rfl dX7_serve_23 ?_
  refine p_getR (c1 := 311) qF_RX7_25 rfl rfl dX7_serve_24 ?_
  refine p_iload_n rfl dX7_serve_27 ?_
  obtain ⟨hg, hF⟩ := ok_g hF
  refine p_iald rfl (inb_in hg) dX7_serve_28 ?_
  refine p_istore_n (Nat.le_of_ble_eq_true rfl) rfl dX7_serve_29 ?_
  refine p_aload_n rfl dX7_serve_30 ?_
  refine p_getR (c1 := 311) qF_RX7_25 rfl rfl dX7_serve_31 ?_
  refine p_iload_n rfl dX7_serve_34 ?_
  refine p_iload_n rfl dX7_serve_35 ?_
  obtain ⟨hg, hF⟩ := ok_g hF
  refine p_iast rfl (inb_in hg) dX7_serve_36 ?_
  refine p_iload_n rfl dX7_serve_37 ?_
  exact p_iret rfl dX7_serve_38 (ok_r (j := jI) hF)
theorem tX7_serve {d : Nat} (hd : 2 ≤ d) {Q : Option Value → Hp → Prop} {a1 : Int32} {a2 : Int32} {sg : Hp} (hF : ok jI (fX7_serve a1 a2 sg) Q) : pw tM d mX7_serve 0 (lv_args 0 [.ref 300, .int a1, .int a2]) [] sg Q := by
  unfold fX7_serve at hF
  obtain ⟨d, rfl⟩ : ∃ e, d = e + 1 := ⟨d - 1, by omega⟩
  have hd : 1 ≤ d := by omega
  show pw _ _ _ _ [(0, .ref 300), (1, .int a1), (2, .int a2)] [] _ _
  refine p_iload_n rfl dX7_serve_0 ?_
  refine p_callS (av := [.int _]) qS_RX7_193 rfl (Nat.le_of_ble_eq_true rfl) (Nat.le_of_ble_eq_true rfl) dX7_serve_1 (tX7_noNode (by omega) (ok_b hF)) (fun r0 s2 hF => ?_)
  obtain ⟨r1, rfl, hF⟩ := hF
  refine p_if_ne (tgt := 21) dX7_serve_4 (by decide) (fun hc => ?_) (fun hc => ?_)
  · have hF := ok_f hc hF
    exact p_lv [] rfl (b_X7_serve_21 hd  _ hF)
  · have hF := ok_t hc hF
    refine p_iload_n rfl dX7_serve_7 ?_
    refine p_bipush (v := -9) (by decide) dX7_serve_8 ?_
    refine p_icmp_eq (tgt := 23) dX7_serve_10 (by decide) (fun hc => ?_) (fun hc => ?_)
    · have hF := ok_t hc hF
      exact p_lv [0, 1, 2] rfl (b_X7_serve_23 hd  _ _ _ hF)
    · have hF := ok_f hc hF
      refine p_aload_n rfl dX7_serve_13 ?_
      refine p_iload_n rfl dX7_serve_14 ?_
      refine p_callV (c0 := 300) (av := [.int _]) qV_RX7_161 rfl rfl rfl rfl (Nat.le_of_ble_eq_true rfl) (Nat.le_of_ble_eq_true rfl) dX7_serve_15 (tX7_noStair (by omega) (ok_b hF)) (fun r0 s4 hF => ?_)
      obtain ⟨r3, rfl, hF⟩ := hF
      refine p_if_eq (tgt := 23) dX7_serve_18 (by decide) (fun hc => ?_) (fun hc => ?_)
      · have hF := ok_t hc hF
        exact p_lv [0, 1, 2] rfl (b_X7_serve_23 hd  _ _ _ hF)
      · have hF := ok_f hc hF
        exact p_lv [] rfl (b_X7_serve_21 hd  _ hF)
theorem l_X7_wayFault_17 {d : Nat} (hd : 1 ≤ d) {Q : Option Value → Hp → Prop} {k44 : Int32 → Int32 → Hp → Option (Int32 × Hp)} (hk44 : ∀ (z1 : Int32) (z2 : Int32) (s2 : Hp), ok jI (k44 z1 z2 s2) Q → pw tM (d + 1) mX7_wayFault 44 [(0, .ref 300), (1, .int z1), (2, .int z2)] [] s2 Q) {k36 : Hp → Option (Int32 × Hp)} (hk36 : ∀ (s2 : Hp), ok jI (k36 s2) Q → pw tM (d + 1) mX7_wayFault 36 [] [] s2 Q) : ∀ (n : Nat) (v1 : Int32) (v2 : Int32) (v3 : Int32) (sg : Hp), ok jI (L_X7_wayFault_17 k44 k36 n v1 v2 v3 sg) Q → pw tM (d + 1) mX7_wayFault 17 [(0, .ref 300), (1, .int v1), (2, .int v2), (3, .int v3)] [] sg Q := by
  intro n
  induction n with
  | zero =>
    intro v1 v2 v3 sg hF
    obtain ⟨_, _, h9, _⟩ := hF
    cases h9
  | succ n ih =>
    intro v1 v2 v3 sg hF
    refine p_iload_n rfl dX7_wayFault_17 ?_
    refine p_iload_n rfl dX7_wayFault_18 ?_
    refine p_icmp_ge (tgt := 44) dX7_wayFault_19 (by decide) (fun hc => ?_) (fun hc => ?_)
    · have hF := ok_t hc hF
      exact p_lv [0, 1, 2] rfl (hk44 _ _ _ hF)
    · have hF := ok_f hc hF
      refine p_aload_n rfl dX7_wayFault_22 ?_
      refine p_getR (c1 := 322) qF_RX7_49 rfl rfl dX7_wayFault_23 ?_
      refine p_iload_n rfl dX7_wayFault_26 ?_
      refine p_iload_n rfl dX7_wayFault_27 ?_
      refine p_iadd dX7_wayFault_28 ?_
      obtain ⟨hg, hF⟩ := ok_g hF
      refine p_iald rfl (inb_in hg) dX7_wayFault_29 ?_
      refine p_callS (av := [.int _]) qS_RX7_193 rfl (Nat.le_of_ble_eq_true rfl) (Nat.le_of_ble_eq_true rfl) dX7_wayFault_30 (tX7_noNode (by omega) (ok_b hF)) (fun r0 s4 hF => ?_)
      obtain ⟨r3, rfl, hF⟩ := hF
      refine p_if_eq (tgt := 38) dX7_wayFault_33 (by decide) (fun hc => ?_) (fun hc => ?_)
      · have hF := ok_t hc hF
        refine p_iinc (w := 1) (by decide) rfl (Nat.le_of_ble_eq_true rfl) rfl dX7_wayFault_38 ?_
        refine p_goto (tgt := 17) dX7_wayFault_41 (by decide) ?_
        exact p_lv [0, 1, 2, 3] rfl (ih _ _ _ _ hF)
      · have hF := ok_f hc hF
        exact p_lv [] rfl (hk36 _ hF)
theorem l_X7_wayFault_54 {d : Nat} (hd : 1 ≤ d) {Q : Option Value → Hp → Prop} {k89 : Int32 → Int32 → Int32 → Hp → Option (Int32 × Hp)} (hk89 : ∀ (z1 : Int32) (z2 : Int32) (z3 : Int32) (s2 : Hp), ok jI (k89 z1 z2 z3 s2) Q → pw tM (d + 1) mX7_wayFault 89 [(0, .ref 300), (1, .int z1), (2, .int z2), (3, .int z3)] [] s2 Q) {k80 : Hp → Option (Int32 × Hp)} (hk80 : ∀ (s2 : Hp), ok jI (k80 s2) Q → pw tM (d + 1) mX7_wayFault 80 [] [] s2 Q) : ∀ (n : Nat) (v1 : Int32) (v2 : Int32) (v3 : Int32) (v4 : Int32) (sg : Hp), ok jI (L_X7_wayFault_54 k89 k80 n v1 v2 v3 v4 sg) Q → pw tM (d + 1) mX7_wayFault 54 [(0, .ref 300), (1, .int v1), (2, .int v2), (3, .int v3), (4, .int v4)] [] sg Q := by
  intro n
  induction n with
  | zero =>
    intro v1 v2 v3 v4 sg hF
    obtain ⟨_, _, h9, _⟩ := hF
    cases h9
  | succ n ih =>
    intro v1 v2 v3 v4 sg hF
    refine p_iload rfl dX7_wayFault_54 ?_
    refine p_iload_n rfl dX7_wayFault_56 ?_
    refine p_icmp_ge (tgt := 89) dX7_wayFault_57 (by decide) (fun hc => ?_) (fun hc => ?_)
    · have hF := ok_t hc hF
      exact p_lv [0, 1, 2, 3] rfl (hk89 _ _ _ _ hF)
    · have hF := ok_f hc hF
      refine p_aload_n rfl dX7_wayFault_60 ?_
      refine p_getR (c1 := 322) qF_RX7_49 rfl rfl dX7_wayFault_61 ?_
      refine p_iload_n rfl dX7_wayFault_64 ?_
      refine p_iload_n rfl dX7_wayFault_65 ?_
      refine p_iadd dX7_wayFault_66 ?_
      obtain ⟨hg, hF⟩ := ok_g hF
      refine p_iald rfl (inb_in hg) dX7_wayFault_67 ?_
      refine p_aload_n rfl dX7_wayFault_68 ?_
      refine p_getR (c1 := 322) qF_RX7_49 rfl rfl dX7_wayFault_69 ?_
      refine p_iload_n rfl dX7_wayFault_72 ?_
      refine p_iload rfl dX7_wayFault_73 ?_
      refine p_iadd dX7_wayFault_75 ?_
      obtain ⟨hg, hF⟩ := ok_g hF
      refine p_iald rfl (inb_in hg) dX7_wayFault_76 ?_
      refine p_icmp_ne (tgt := 83) dX7_wayFault_77 (by decide) (fun hc => ?_) (fun hc => ?_)
      · have hF := ok_f hc hF
        refine p_iinc (w := 1) (by decide) rfl (Nat.le_of_ble_eq_true rfl) rfl dX7_wayFault_83 ?_
        refine p_goto (tgt := 54) dX7_wayFault_86 (by decide) ?_
        exact p_lv [0, 1, 2, 3, 4] rfl (ih _ _ _ _ _ hF)
      · have hF := ok_t hc hF
        exact p_lv [] rfl (hk80 _ hF)
theorem l_X7_wayFault_46 {d : Nat} (hd : 1 ≤ d) {Q : Option Value → Hp → Prop} {k95 : Hp → Option (Int32 × Hp)} (hk95 : ∀ (s2 : Hp), ok jI (k95 s2) Q → pw tM (d + 1) mX7_wayFault 95 [] [] s2 Q) {k80 : Hp → Option (Int32 × Hp)} (hk80 : ∀ (s2 : Hp), ok jI (k80 s2) Q → pw tM (d + 1) mX7_wayFault 80 [] [] s2 Q) : ∀ (n : Nat) (v1 : Int32) (v2 : Int32) (v3 : Int32) (sg : Hp), ok jI (L_X7_wayFault_46 k95 k80 n v1 v2 v3 sg) Q → pw tM (d + 1) mX7_wayFault 46 [(0, .ref 300), (1, .int v1), (2, .int v2), (3, .int v3)] [] sg Q := by
  intro n
  induction n with
  | zero =>
    intro v1 v2 v3 sg hF
    obtain ⟨_, _, h9, _⟩ := hF
    cases h9
  | succ n ih =>
    intro v1 v2 v3 sg hF
    refine p_iload_n rfl dX7_wayFault_46 ?_
    refine p_iload_n rfl dX7_wayFault_47 ?_
    refine p_icmp_ge (tgt := 95) dX7_wayFault_48 (by decide) (fun hc => ?_) (fun hc => ?_)
    · have hF := ok_t hc hF
      exact p_lv [] rfl (hk95 _ hF)
    · have hF := ok_f hc hF
      refine p_iconst (v := 0) (by decide) dX7_wayFault_51 ?_
      refine p_istore (Nat.le_of_ble_eq_true rfl) rfl dX7_wayFault_52 ?_
      refine p_lv [0, 1, 2, 3, 4] rfl (l_X7_wayFault_54 hd ?_ hk80 200 _ _ _ _ _ hF)
      intro w7_1 w7_2 w7_3 s8 hF
      refine p_iinc (w := 1) (by decide) rfl (Nat.le_of_ble_eq_true rfl) rfl dX7_wayFault_89 ?_
      refine p_goto (tgt := 46) dX7_wayFault_92 (by decide) ?_
      exact p_lv [0, 1, 2, 3] rfl (ih _ _ _ _ hF)
theorem tX7_wayFault {d : Nat} (hd : 2 ≤ d) {Q : Option Value → Hp → Prop} {a1 : Int32} {a2 : Int32} {sg : Hp} (hF : ok jI (fX7_wayFault a1 a2 sg) Q) : pw tM d mX7_wayFault 0 (lv_args 0 [.ref 300, .int a1, .int a2]) [] sg Q := by
  unfold fX7_wayFault at hF
  obtain ⟨d, rfl⟩ : ∃ e, d = e + 1 := ⟨d - 1, by omega⟩
  have hd : 1 ≤ d := by omega
  show pw _ _ _ _ [(0, .ref 300), (1, .int a1), (2, .int a2)] [] _ _
  refine p_iload_n rfl dX7_wayFault_0 ?_
  refine p_i2l dX7_wayFault_1 ?_
  refine p_lconst (v := 1) (by decide) dX7_wayFault_2 ?_
  refine p_ldc2 wd_961 dX7_wayFault_3 ?_
  refine p_callS (av := [.long _, .long _, .long _]) qS_RX7_67 rfl (Nat.le_of_ble_eq_true rfl) (Nat.le_of_ble_eq_true rfl) dX7_wayFault_6 (tX7_in (ok_b hF)) (fun r0 s2 hF => ?_)
  obtain ⟨r1, rfl, hF⟩ := hF
  refine p_if_ne (tgt := 15) dX7_wayFault_9 (by decide) (fun hc => ?_) (fun hc => ?_)
  · have hF := ok_f hc hF
    refine p_iconst (v := 0) (by decide) dX7_wayFault_15 ?_
    refine p_istore_n (Nat.le_of_ble_eq_true rfl) rfl dX7_wayFault_16 ?_
    refine p_lv [0, 1, 2, 3] rfl (l_X7_wayFault_17 hd ?_ ?_ 200 _ _ _ _ hF)
    · intro w5_1 w5_2 s6 hF
      refine p_iconst (v := 0) (by decide) dX7_wayFault_44 ?_
      refine p_istore_n (Nat.le_of_ble_eq_true rfl) rfl dX7_wayFault_45 ?_
      refine p_lv [0, 1, 2, 3] rfl (l_X7_wayFault_46 hd ?_ ?_ 200 _ _ _ _ hF)
      · intro s10 hF
        refine p_iconst (v := 0) (by decide) dX7_wayFault_95 ?_
        exact p_iret rfl dX7_wayFault_96 (ok_r (j := jI) hF)
      · intro s12 hF
        refine p_bipush (v := -3) (by decide) dX7_wayFault_80 ?_
        exact p_iret rfl dX7_wayFault_82 (ok_r (j := jI) hF)
    · intro s14 hF
      refine p_iconst (v := -1) (by decide) dX7_wayFault_36 ?_
      exact p_iret rfl dX7_wayFault_37 (ok_r (j := jI) hF)
  · have hF := ok_t hc hF
    refine p_bipush (v := -2) (by decide) dX7_wayFault_12 ?_
    exact p_iret rfl dX7_wayFault_14 (ok_r (j := jI) hF)
theorem b_X7_flow_15 {d : Nat} (hd : 2 ≤ d) {Q : Option Value → Hp → Prop}   (sg : Hp) (hF : ok jI (B_X7_flow_15   sg) Q) : pw tM (d + 1) mX7_flow 15 [(0, .ref 300)] [] sg Q := by
  unfold B_X7_flow_15 at hF
  refine p_aload_n rfl dX7_flow_15 ?_
  refine p_iconst (v := -1) (by decide) dX7_flow_16 ?_
  refine p_callV (c0 := 300) (av := [.int _]) qV_RX7_71 rfl rfl rfl rfl (Nat.le_of_ble_eq_true rfl) (Nat.le_of_ble_eq_true rfl) dX7_flow_17 (tX7_refused (ok_b hF)) (fun r0 s4 hF => ?_)
  obtain ⟨r3, rfl, hF⟩ := hF
  exact p_iret rfl dX7_flow_20 (ok_r (j := jI) hF)
theorem l_X7_flow_114 {d : Nat} (hd : 2 ≤ d) {Q : Option Value → Hp → Prop} {k151 : Hp → Option (Int32 × Hp)} (hk151 : ∀ (s2 : Hp), ok jI (k151 s2) Q → pw tM (d + 1) mX7_flow 151 [(0, .ref 300)] [] s2 Q) : ∀ (n : Nat) (v5 : Int32) (v7 : Int32) (v8 : Int32) (sg : Hp), ok jI (L_X7_flow_114 k151 n v5 v7 v8 sg) Q → pw tM (d + 1) mX7_flow 114 [(0, .ref 300), (5, .int v5), (7, .int v7), (8, .int v8)] [] sg Q := by
  intro n
  induction n with
  | zero =>
    intro v5 v7 v8 sg hF
    obtain ⟨_, _, h9, _⟩ := hF
    cases h9
  | succ n ih =>
    intro v5 v7 v8 sg hF
    refine p_iload rfl dX7_flow_114 ?_
    refine p_iload rfl dX7_flow_116 ?_
    refine p_icmp_ge (tgt := 151) dX7_flow_118 (by decide) (fun hc => ?_) (fun hc => ?_)
    · have hF := ok_t hc hF
      exact p_lv [0] rfl (hk151 _ hF)
    · have hF := ok_f hc hF
      refine p_aload_n rfl dX7_flow_121 ?_
      refine p_getR (c1 := 315) qF_RX7_34 rfl rfl dX7_flow_122 ?_
      refine p_iconst (v := 4) (by decide) dX7_flow_125 ?_
      refine p_aload_n rfl dX7_flow_126 ?_
      refine p_getI qF_RX7_190 rfl rfl dX7_flow_127 ?_
      refine p_imul dX7_flow_130 ?_
      refine p_iload rfl dX7_flow_131 ?_
      refine p_iadd dX7_flow_133 ?_
      refine p_aload_n rfl dX7_flow_134 ?_
      refine p_getR (c1 := 322) qF_RX7_49 rfl rfl dX7_flow_135 ?_
      refine p_iload rfl dX7_flow_138 ?_
      refine p_iload rfl dX7_flow_140 ?_
      refine p_iadd dX7_flow_142 ?_
      obtain ⟨hg, hF⟩ := ok_g hF
      refine p_iald rfl (inb_in hg) dX7_flow_143 ?_
      obtain ⟨hg, hF⟩ := ok_g hF
      refine p_iast rfl (inb_in hg) dX7_flow_144 ?_
      refine p_iinc (w := 1) (by decide) rfl (Nat.le_of_ble_eq_true rfl) rfl dX7_flow_145 ?_
      refine p_goto (tgt := 114) dX7_flow_148 (by decide) ?_
      exact p_lv [0, 5, 7, 8] rfl (ih _ _ _ _ hF)
theorem tX7_flow {d : Nat} (hd : 3 ≤ d) {Q : Option Value → Hp → Prop} {a1 : Int32} {a2 : Int32} {a3 : Int32} {a4 : Int32} {a5 : Int32} {sg : Hp} (hF : ok jI (fX7_flow a1 a2 a3 a4 a5 sg) Q) : pw tM d mX7_flow 0 (lv_args 0 [.ref 300, .int a1, .int a2, .int a3, .int a4, .int a5]) [] sg Q := by
  unfold fX7_flow at hF
  obtain ⟨d, rfl⟩ : ∃ e, d = e + 1 := ⟨d - 1, by omega⟩
  have hd : 2 ≤ d := by omega
  show pw _ _ _ _ [(0, .ref 300), (1, .int a1), (2, .int a2), (3, .int a3), (4, .int a4), (5, .int a5)] [] _ _
  refine p_aload_n rfl dX7_flow_0 ?_
  refine p_iload_n rfl dX7_flow_1 ?_
  refine p_callV (c0 := 300) (av := [.int _]) qV_RX7_161 rfl rfl rfl rfl (Nat.le_of_ble_eq_true rfl) (Nat.le_of_ble_eq_true rfl) dX7_flow_2 (tX7_noStair (by omega) (ok_b hF)) (fun r0 s2 hF => ?_)
  obtain ⟨r1, rfl, hF⟩ := hF
  refine p_if_ne (tgt := 15) dX7_flow_5 (by decide) (fun hc => ?_) (fun hc => ?_)
  · have hF := ok_f hc hF
    exact p_lv [0] rfl (b_X7_flow_15 hd  _ hF)
  · have hF := ok_t hc hF
    refine p_iload_n rfl dX7_flow_8 ?_
    refine p_callS (av := [.int _]) qS_RX7_96 rfl (Nat.le_of_ble_eq_true rfl) (Nat.le_of_ble_eq_true rfl) dX7_flow_9 (tX7_noSheet (by omega) (ok_b hF)) (fun r0 s6 hF => ?_)
    obtain ⟨r5, rfl, hF⟩ := hF
    refine p_if_eq (tgt := 21) dX7_flow_12 (by decide) (fun hc => ?_) (fun hc => ?_)
    · have hF := ok_t hc hF
      refine p_aload_n rfl dX7_flow_21 ?_
      refine p_iload_n rfl dX7_flow_22 ?_
      refine p_iload_n rfl dX7_flow_23 ?_
      refine p_iload rfl dX7_flow_24 ?_
      refine p_iload rfl dX7_flow_26 ?_
      refine p_i2l dX7_flow_28 ?_
      refine p_callV (c0 := 300) (av := [.int _, .int _, .int _, .long _]) qV_RX7_100 rfl rfl rfl rfl (Nat.le_of_ble_eq_true rfl) (Nat.le_of_ble_eq_true rfl) dX7_flow_29 (tX7_barred (by omega) (ok_b hF)) (fun r0 s8 hF => ?_)
      obtain ⟨r7, rfl, hF⟩ := hF
      refine p_istore (Nat.le_of_ble_eq_true rfl) rfl dX7_flow_32 ?_
      refine p_iload rfl dX7_flow_34 ?_
      refine p_if_ge (tgt := 42) dX7_flow_36 (by decide) (fun hc => ?_) (fun hc => ?_)
      · have hF := ok_t hc hF
        refine p_bipush (v := 60) (by decide) dX7_flow_42 ?_
        refine p_iload_n rfl dX7_flow_44 ?_
        refine p_imul dX7_flow_45 ?_
        refine p_iload rfl dX7_flow_46 ?_
        refine p_iadd dX7_flow_48 ?_
        refine p_istore (Nat.le_of_ble_eq_true rfl) rfl dX7_flow_49 ?_
        refine p_aload_n rfl dX7_flow_51 ?_
        refine p_iload rfl dX7_flow_52 ?_
        refine p_iload rfl dX7_flow_54 ?_
        refine p_callV (c0 := 300) (av := [.int _, .int _]) qV_RX7_196 rfl rfl rfl rfl (Nat.le_of_ble_eq_true rfl) (Nat.le_of_ble_eq_true rfl) dX7_flow_56 (tX7_wayFault (by omega) (ok_b hF)) (fun r0 s10 hF => ?_)
        obtain ⟨r9, rfl, hF⟩ := hF
        refine p_if_ge (tgt := 75) dX7_flow_59 (by decide) (fun hc => ?_) (fun hc => ?_)
        · have hF := ok_t hc hF
          refine p_aload_n rfl dX7_flow_75 ?_
          refine p_getI qF_RX7_190 rfl rfl dX7_flow_76 ?_
          refine p_iconst (v := 5) (by decide) dX7_flow_79 ?_
          refine p_icmp_ne (tgt := 90) dX7_flow_80 (by decide) (fun hc => ?_) (fun hc => ?_)
          · have hF := ok_f hc hF
            refine p_aload_n rfl dX7_flow_90 ?_
            refine p_getR (c1 := 313) qF_RX7_28 rfl rfl dX7_flow_91 ?_
            refine p_aload_n rfl dX7_flow_94 ?_
            refine p_getI qF_RX7_190 rfl rfl dX7_flow_95 ?_
            refine p_iload_n rfl dX7_flow_98 ?_
            obtain ⟨hg, hF⟩ := ok_g hF
            refine p_iast rfl (inb_in hg) dX7_flow_99 ?_
            refine p_aload_n rfl dX7_flow_100 ?_
            refine p_getR (c1 := 314) qF_RX7_31 rfl rfl dX7_flow_101 ?_
            refine p_aload_n rfl dX7_flow_104 ?_
            refine p_getI qF_RX7_190 rfl rfl dX7_flow_105 ?_
            refine p_iload rfl dX7_flow_108 ?_
            obtain ⟨hg, hF⟩ := ok_g hF
            refine p_iast rfl (inb_in hg) dX7_flow_110 ?_
            refine p_iconst (v := 0) (by decide) dX7_flow_111 ?_
            refine p_istore (Nat.le_of_ble_eq_true rfl) rfl dX7_flow_112 ?_
            refine p_lv [0, 5, 7, 8] rfl (l_X7_flow_114 hd ?_ 200 _ _ _ _ hF)
            intro s12 hF
            refine p_aload_n rfl dX7_flow_151 ?_
            refine p_dup rfl dX7_flow_152 ?_
            refine p_getI qF_RX7_190 rfl rfl dX7_flow_153 ?_
            refine p_iconst (v := 1) (by decide) dX7_flow_156 ?_
            refine p_iadd dX7_flow_157 ?_
            refine p_put qF_RX7_190 qP_6_12 rfl rfl rfl rfl dX7_flow_158 ?_
            refine p_aload_n rfl dX7_flow_161 ?_
            refine p_aload_n rfl dX7_flow_162 ?_
            refine p_getI qF_RX7_190 rfl rfl dX7_flow_163 ?_
            refine p_iconst (v := 1) (by decide) dX7_flow_166 ?_
            refine p_isub dX7_flow_167 ?_
            refine p_callV (c0 := 300) (av := [.int _]) qV_RX7_71 rfl rfl rfl rfl (Nat.le_of_ble_eq_true rfl) (Nat.le_of_ble_eq_true rfl) dX7_flow_168 (tX7_refused (ok_b hF)) (fun r0 s14 hF => ?_)
            obtain ⟨r13, rfl, hF⟩ := hF
            exact p_iret rfl dX7_flow_171 (ok_r (j := jI) hF)
          · have hF := ok_t hc hF
            refine p_aload_n rfl dX7_flow_83 ?_
            refine p_bipush (v := -4) (by decide) dX7_flow_84 ?_
            refine p_callV (c0 := 300) (av := [.int _]) qV_RX7_71 rfl rfl rfl rfl (Nat.le_of_ble_eq_true rfl) (Nat.le_of_ble_eq_true rfl) dX7_flow_86 (tX7_refused (ok_b hF)) (fun r0 s16 hF => ?_)
            obtain ⟨r15, rfl, hF⟩ := hF
            exact p_iret rfl dX7_flow_89 (ok_r (j := jI) hF)
        · have hF := ok_f hc hF
          refine p_aload_n rfl dX7_flow_62 ?_
          refine p_aload_n rfl dX7_flow_63 ?_
          refine p_iload rfl dX7_flow_64 ?_
          refine p_iload rfl dX7_flow_66 ?_
          refine p_callV (c0 := 300) (av := [.int _, .int _]) qV_RX7_196 rfl rfl rfl rfl (Nat.le_of_ble_eq_true rfl) (Nat.le_of_ble_eq_true rfl) dX7_flow_68 (tX7_wayFault (by omega) (ok_b hF)) (fun r0 s18 hF => ?_)
          obtain ⟨r17, rfl, hF⟩ := hF
          refine p_callV (c0 := 300) (av := [.int _]) qV_RX7_71 rfl rfl rfl rfl (Nat.le_of_ble_eq_true rfl) (Nat.le_of_ble_eq_true rfl) dX7_flow_71 (tX7_refused (ok_b hF)) (fun r0 s20 hF => ?_)
          obtain ⟨r19, rfl, hF⟩ := hF
          exact p_iret rfl dX7_flow_74 (ok_r (j := jI) hF)
      · have hF := ok_f hc hF
        refine p_iload rfl dX7_flow_39 ?_
        exact p_iret rfl dX7_flow_41 (ok_r (j := jI) hF)
    · have hF := ok_f hc hF
      exact p_lv [0] rfl (b_X7_flow_15 hd  _ hF)
theorem b_X7_ofFlow_38 {d : Nat} (hd : 1 ≤ d) {Q : Option Value → Hp → Prop}  (vk0 : Int32) (sg : Hp) (hF : ok jI (B_X7_ofFlow_38  vk0 sg) Q) : pw tM (d + 1) mX7_ofFlow 38 [] [.int vk0] sg Q := by
  unfold B_X7_ofFlow_38 at hF
  exact p_iret rfl dX7_ofFlow_38 (ok_r (j := jI) hF)
theorem b_X7_ofFlow_19 {d : Nat} (hd : 1 ≤ d) {Q : Option Value → Hp → Prop}  (v1 : Int32) (v2 : Int32) (sg : Hp) (hF : ok jI (B_X7_ofFlow_19  v1 v2 sg) Q) : pw tM (d + 1) mX7_ofFlow 19 [(0, .ref 300), (1, .int v1), (2, .int v2)] [] sg Q := by
  unfold B_X7_ofFlow_19 at hF
  refine p_iload_n rfl dX7_ofFlow_19 ?_
  refine p_if_ne (tgt := 32) dX7_ofFlow_20 (by decide) (fun hc => ?_) (fun hc => ?_)
  · have hF := ok_f hc hF
    refine p_aload_n rfl dX7_ofFlow_32 ?_
    refine p_getR (c1 := 314) qF_RX7_31 rfl rfl dX7_ofFlow_33 ?_
    refine p_iload_n rfl dX7_ofFlow_36 ?_
    obtain ⟨hg, hF⟩ := ok_g hF
    refine p_iald rfl (inb_in hg) dX7_ofFlow_37 ?_
    exact p_lv [] rfl (b_X7_ofFlow_38 hd  _ _ hF)
  · have hF := ok_t hc hF
    refine p_aload_n rfl dX7_ofFlow_23 ?_
    refine p_getR (c1 := 313) qF_RX7_28 rfl rfl dX7_ofFlow_24 ?_
    refine p_iload_n rfl dX7_ofFlow_27 ?_
    obtain ⟨hg, hF⟩ := ok_g hF
    refine p_iald rfl (inb_in hg) dX7_ofFlow_28 ?_
    refine p_goto (tgt := 38) dX7_ofFlow_29 (by decide) ?_
    exact p_lv [] rfl (b_X7_ofFlow_38 hd  _ _ hF)
theorem b_X7_ofFlow_79 {d : Nat} (hd : 1 ≤ d) {Q : Option Value → Hp → Prop}  (vk0 : Int32) (sg : Hp) (hF : ok jI (B_X7_ofFlow_79  vk0 sg) Q) : pw tM (d + 1) mX7_ofFlow 79 [] [.int vk0] sg Q := by
  unfold B_X7_ofFlow_79 at hF
  exact p_iret rfl dX7_ofFlow_79 (ok_r (j := jI) hF)
theorem tX7_ofFlow {d : Nat} (hd : 2 ≤ d) {Q : Option Value → Hp → Prop} {a1 : Int32} {a2 : Int32} {sg : Hp} (hF : ok jI (fX7_ofFlow a1 a2 sg) Q) : pw tM d mX7_ofFlow 0 (lv_args 0 [.ref 300, .int a1, .int a2]) [] sg Q := by
  unfold fX7_ofFlow at hF
  obtain ⟨d, rfl⟩ : ∃ e, d = e + 1 := ⟨d - 1, by omega⟩
  have hd : 1 ≤ d := by omega
  show pw _ _ _ _ [(0, .ref 300), (1, .int a1), (2, .int a2)] [] _ _
  refine p_aload_n rfl dX7_ofFlow_0 ?_
  refine p_iload_n rfl dX7_ofFlow_1 ?_
  refine p_callV (c0 := 300) (av := [.int _]) qV_RX7_199 rfl rfl rfl rfl (Nat.le_of_ble_eq_true rfl) (Nat.le_of_ble_eq_true rfl) dX7_ofFlow_2 (tX7_noFlow (by omega) (ok_b hF)) (fun r0 s2 hF => ?_)
  obtain ⟨r1, rfl, hF⟩ := hF
  refine p_if_eq (tgt := 10) dX7_ofFlow_5 (by decide) (fun hc => ?_) (fun hc => ?_)
  · have hF := ok_t hc hF
    refine p_iload_n rfl dX7_ofFlow_10 ?_
    refine p_if_eq (tgt := 19) dX7_ofFlow_11 (by decide) (fun hc => ?_) (fun hc => ?_)
    · have hF := ok_t hc hF
      exact p_lv [0, 1, 2] rfl (b_X7_ofFlow_19 hd  _ _ _ hF)
    · have hF := ok_f hc hF
      refine p_iload_n rfl dX7_ofFlow_14 ?_
      refine p_iconst (v := 1) (by decide) dX7_ofFlow_15 ?_
      refine p_icmp_ne (tgt := 39) dX7_ofFlow_16 (by decide) (fun hc => ?_) (fun hc => ?_)
      · have hF := ok_f hc hF
        refine p_iload_n rfl dX7_ofFlow_39 ?_
        refine p_i2l dX7_ofFlow_40 ?_
        refine p_ldc2 wd_1018 dX7_ofFlow_41 ?_
        refine p_ldc2 wd_1019 dX7_ofFlow_44 ?_
        refine p_aload_n rfl dX7_ofFlow_47 ?_
        refine p_getR (c1 := 314) qF_RX7_31 rfl rfl dX7_ofFlow_48 ?_
        refine p_iload_n rfl dX7_ofFlow_51 ?_
        obtain ⟨hg, hF⟩ := ok_g hF
        refine p_iald rfl (inb_in hg) dX7_ofFlow_52 ?_
        refine p_i2l dX7_ofFlow_53 ?_
        refine p_ladd dX7_ofFlow_54 ?_
        refine p_callS (av := [.long _, .long _, .long _]) qS_RX7_67 rfl (Nat.le_of_ble_eq_true rfl) (Nat.le_of_ble_eq_true rfl) dX7_ofFlow_55 (tX7_in (ok_b hF)) (fun r0 s4 hF => ?_)
        obtain ⟨r3, rfl, hF⟩ := hF
        refine p_if_eq (tgt := 77) dX7_ofFlow_58 (by decide) (fun hc => ?_) (fun hc => ?_)
        · have hF := ok_t hc hF
          refine p_bipush (v := -2) (by decide) dX7_ofFlow_77 ?_
          exact p_lv [] rfl (b_X7_ofFlow_79 hd  _ _ hF)
        · have hF := ok_f hc hF
          refine p_aload_n rfl dX7_ofFlow_61 ?_
          refine p_getR (c1 := 315) qF_RX7_34 rfl rfl dX7_ofFlow_62 ?_
          refine p_iconst (v := 4) (by decide) dX7_ofFlow_65 ?_
          refine p_iload_n rfl dX7_ofFlow_66 ?_
          refine p_imul dX7_ofFlow_67 ?_
          refine p_iload_n rfl dX7_ofFlow_68 ?_
          refine p_iadd dX7_ofFlow_69 ?_
          refine p_bipush (v := 10) (by decide) dX7_ofFlow_70 ?_
          refine p_isub dX7_ofFlow_72 ?_
          obtain ⟨hg, hF⟩ := ok_g hF
          refine p_iald rfl (inb_in hg) dX7_ofFlow_73 ?_
          refine p_goto (tgt := 79) dX7_ofFlow_74 (by decide) ?_
          exact p_lv [] rfl (b_X7_ofFlow_79 hd  _ _ hF)
      · have hF := ok_t hc hF
        exact p_lv [0, 1, 2] rfl (b_X7_ofFlow_19 hd  _ _ _ hF)
  · have hF := ok_f hc hF
    refine p_iconst (v := -1) (by decide) dX7_ofFlow_8 ?_
    exact p_iret rfl dX7_ofFlow_9 (ok_r (j := jI) hF)
theorem tX7_rule {d : Nat} (hd : 1 ≤ d) {Q : Option Value → Hp → Prop} {a1 : Int32} {sg : Hp} (hF : ok jI (fX7_rule a1 sg) Q) : pw tM d mX7_rule 0 (lv_args 0 [.ref 300, .int a1]) [] sg Q := by
  unfold fX7_rule at hF
  obtain ⟨d, rfl⟩ : ∃ e, d = e + 1 := ⟨d - 1, by omega⟩
  show pw _ _ _ _ [(0, .ref 300), (1, .int a1)] [] _ _
  refine p_iload_n rfl dX7_rule_0 ?_
  refine p_i2l dX7_rule_1 ?_
  refine p_lconst (v := 0) (by decide) dX7_rule_2 ?_
  refine p_ldc2 wd_864 dX7_rule_3 ?_
  refine p_callS (av := [.long _, .long _, .long _]) qS_RX7_67 rfl (Nat.le_of_ble_eq_true rfl) (Nat.le_of_ble_eq_true rfl) dX7_rule_6 (tX7_in (ok_b hF)) (fun r0 s2 hF => ?_)
  obtain ⟨r1, rfl, hF⟩ := hF
  refine p_if_ne (tgt := 15) dX7_rule_9 (by decide) (fun hc => ?_) (fun hc => ?_)
  · have hF := ok_f hc hF
    refine p_aload_n rfl dX7_rule_15 ?_
    refine p_getI qF_RX7_206 rfl rfl dX7_rule_16 ?_
    refine p_istore_n (Nat.le_of_ble_eq_true rfl) rfl dX7_rule_19 ?_
    refine p_aload_n rfl dX7_rule_20 ?_
    refine p_iload_n rfl dX7_rule_21 ?_
    refine p_put qF_RX7_206 qP_6_16 rfl rfl rfl rfl dX7_rule_22 ?_
    refine p_iload_n rfl dX7_rule_25 ?_
    exact p_iret rfl dX7_rule_26 (ok_r (j := jI) hF)
  · have hF := ok_t hc hF
    refine p_bipush (v := -2) (by decide) dX7_rule_12 ?_
    exact p_iret rfl dX7_rule_14 (ok_r (j := jI) hF)
theorem l_X7_layRounds_2 {d : Nat} {Q : Option Value → Hp → Prop} {k21 : Hp → Option (Int32 × Hp)} (hk21 : ∀ (s2 : Hp), ok jI (k21 s2) Q → pw tM (d + 1) mX7_layRounds 21 [(0, .ref 300)] [] s2 Q) : ∀ (n : Nat) (v1 : Int32) (sg : Hp), ok jI (L_X7_layRounds_2 k21 n v1 sg) Q → pw tM (d + 1) mX7_layRounds 2 [(0, .ref 300), (1, .int v1)] [] sg Q := by
  intro n
  induction n with
  | zero =>
    intro v1 sg hF
    obtain ⟨_, _, h9, _⟩ := hF
    cases h9
  | succ n ih =>
    intro v1 sg hF
    refine p_iload_n rfl dX7_layRounds_2 ?_
    refine p_bipush (v := 6) (by decide) dX7_layRounds_3 ?_
    refine p_icmp_ge (tgt := 21) dX7_layRounds_5 (by decide) (fun hc => ?_) (fun hc => ?_)
    · have hF := ok_t hc hF
      exact p_lv [0] rfl (hk21 _ hF)
    · have hF := ok_f hc hF
      refine p_aload_n rfl dX7_layRounds_8 ?_
      refine p_getR (c1 := 317) qF_RX7_37 rfl rfl dX7_layRounds_9 ?_
      refine p_iload_n rfl dX7_layRounds_12 ?_
      refine p_iconst (v := 0) (by decide) dX7_layRounds_13 ?_
      obtain ⟨hg, hF⟩ := ok_g hF
      refine p_iast rfl (inb_in hg) dX7_layRounds_14 ?_
      refine p_iinc (w := 1) (by decide) rfl (Nat.le_of_ble_eq_true rfl) rfl dX7_layRounds_15 ?_
      refine p_goto (tgt := 2) dX7_layRounds_18 (by decide) ?_
      exact p_lv [0, 1] rfl (ih _ _ hF)
theorem b_X7_layRounds_115 {d : Nat} {Q : Option Value → Hp → Prop} {k50 : Int32 → Int32 → Int32 → Int32 → Hp → Option (Int32 × Hp)} (hk50 : ∀ (z1 : Int32) (z2 : Int32) (z3 : Int32) (z4 : Int32) (s2 : Hp), ok jI (k50 z1 z2 z3 z4 s2) Q → pw tM (d + 1) mX7_layRounds 50 [(0, .ref 300), (1, .int z1), (2, .int z2), (3, .int z3), (4, .int z4)] [] s2 Q) (v2 : Int32) (v3 : Int32) (v4 : Int32) (v5 : Int32) (v6 : Int32) (vk0 : Int32) (sg : Hp) (hF : ok jI (B_X7_layRounds_115 k50 v2 v3 v4 v5 v6 vk0 sg) Q) : pw tM (d + 1) mX7_layRounds 115 [(0, .ref 300), (2, .int v2), (3, .int v3), (4, .int v4), (5, .int v5), (6, .int v6)] [.int vk0] sg Q := by
  unfold B_X7_layRounds_115 at hF
  refine p_istore_n (Nat.le_of_ble_eq_true rfl) rfl dX7_layRounds_115 ?_
  refine p_aload_n rfl dX7_layRounds_116 ?_
  refine p_getR (c1 := 317) qF_RX7_37 rfl rfl dX7_layRounds_117 ?_
  refine p_iload rfl dX7_layRounds_120 ?_
  refine p_aload_n rfl dX7_layRounds_122 ?_
  refine p_getR (c1 := 317) qF_RX7_37 rfl rfl dX7_layRounds_123 ?_
  refine p_iload rfl dX7_layRounds_126 ?_
  obtain ⟨hg, hF⟩ := ok_g hF
  refine p_iald rfl (inb_in hg) dX7_layRounds_128 ?_
  refine p_aload_n rfl dX7_layRounds_129 ?_
  refine p_getR (c1 := 317) qF_RX7_37 rfl rfl dX7_layRounds_130 ?_
  refine p_iload rfl dX7_layRounds_133 ?_
  obtain ⟨hg, hF⟩ := ok_g hF
  refine p_iald rfl (inb_in hg) dX7_layRounds_135 ?_
  refine p_iconst (v := 1) (by decide) dX7_layRounds_136 ?_
  refine p_iadd dX7_layRounds_137 ?_
  refine p_callS (av := [.int _, .int _]) qS_RX7_171 rfl (Nat.le_of_ble_eq_true rfl) (Nat.le_of_ble_eq_true rfl) dX7_layRounds_138 (tX7_greater (ok_b hF)) (fun r0 s4 hF => ?_)
  obtain ⟨r3, rfl, hF⟩ := hF
  obtain ⟨hg, hF⟩ := ok_g hF
  refine p_iast rfl (inb_in hg) dX7_layRounds_141 ?_
  refine p_iinc (w := 1) (by decide) rfl (Nat.le_of_ble_eq_true rfl) rfl dX7_layRounds_142 ?_
  refine p_goto (tgt := 50) dX7_layRounds_145 (by decide) ?_
  exact p_lv [0, 1, 2, 3, 4] rfl (hk50 _ _ _ _ _ hF)
theorem b_X7_layRounds_110 {d : Nat} {Q : Option Value → Hp → Prop} {k50 : Int32 → Int32 → Int32 → Int32 → Hp → Option (Int32 × Hp)} (hk50 : ∀ (z1 : Int32) (z2 : Int32) (z3 : Int32) (z4 : Int32) (s2 : Hp), ok jI (k50 z1 z2 z3 z4 s2) Q → pw tM (d + 1) mX7_layRounds 50 [(0, .ref 300), (1, .int z1), (2, .int z2), (3, .int z3), (4, .int z4)] [] s2 Q) (v2 : Int32) (v3 : Int32) (v4 : Int32) (v5 : Int32) (v6 : Int32) (sg : Hp) (hF : ok jI (B_X7_layRounds_110 k50 v2 v3 v4 v5 v6 sg) Q) : pw tM (d + 1) mX7_layRounds 110 [(0, .ref 300), (2, .int v2), (3, .int v3), (4, .int v4), (5, .int v5), (6, .int v6)] [] sg Q := by
  unfold B_X7_layRounds_110 at hF
  refine p_iconst (v := 1) (by decide) dX7_layRounds_110 ?_
  refine p_goto (tgt := 115) dX7_layRounds_111 (by decide) ?_
  exact p_lv [0, 2, 3, 4, 5, 6] rfl (b_X7_layRounds_115 hk50 _ _ _ _ _ _ _ hF)
theorem l_X7_layRounds_50 {d : Nat} {Q : Option Value → Hp → Prop} {k148 : Int32 → Int32 → Int32 → Hp → Option (Int32 × Hp)} (hk148 : ∀ (z1 : Int32) (z2 : Int32) (z3 : Int32) (s2 : Hp), ok jI (k148 z1 z2 z3 s2) Q → pw tM (d + 1) mX7_layRounds 148 [(0, .ref 300), (1, .int z1), (2, .int z2), (3, .int z3)] [] s2 Q) : ∀ (n : Nat) (v1 : Int32) (v2 : Int32) (v3 : Int32) (v4 : Int32) (sg : Hp), ok jI (L_X7_layRounds_50 k148 n v1 v2 v3 v4 sg) Q → pw tM (d + 1) mX7_layRounds 50 [(0, .ref 300), (1, .int v1), (2, .int v2), (3, .int v3), (4, .int v4)] [] sg Q := by
  intro n
  induction n with
  | zero =>
    intro v1 v2 v3 v4 sg hF
    obtain ⟨_, _, h9, _⟩ := hF
    cases h9
  | succ n ih =>
    intro v1 v2 v3 v4 sg hF
    refine p_iload rfl dX7_layRounds_50 ?_
    refine p_aload_n rfl dX7_layRounds_52 ?_
    refine p_getR (c1 := 314) qF_RX7_31 rfl rfl dX7_layRounds_53 ?_
    refine p_iload_n rfl dX7_layRounds_56 ?_
    obtain ⟨hg, hF⟩ := ok_g hF
    refine p_iald rfl (inb_in hg) dX7_layRounds_57 ?_
    refine p_icmp_ge (tgt := 148) dX7_layRounds_58 (by decide) (fun hc => ?_) (fun hc => ?_)
    · have hF := ok_t hc hF
      exact p_lv [0, 1, 2, 3] rfl (hk148 _ _ _ _ hF)
    · have hF := ok_f hc hF
      refine p_aload_n rfl dX7_layRounds_61 ?_
      refine p_getR (c1 := 315) qF_RX7_34 rfl rfl dX7_layRounds_62 ?_
      refine p_iconst (v := 4) (by decide) dX7_layRounds_65 ?_
      refine p_iload_n rfl dX7_layRounds_66 ?_
      refine p_imul dX7_layRounds_67 ?_
      refine p_iload rfl dX7_layRounds_68 ?_
      refine p_iadd dX7_layRounds_70 ?_
      refine p_iconst (v := 1) (by decide) dX7_layRounds_71 ?_
      refine p_isub dX7_layRounds_72 ?_
      obtain ⟨hg, hF⟩ := ok_g hF
      refine p_iald rfl (inb_in hg) dX7_layRounds_73 ?_
      refine p_istore (Nat.le_of_ble_eq_true rfl) rfl dX7_layRounds_74 ?_
      refine p_aload_n rfl dX7_layRounds_76 ?_
      refine p_getR (c1 := 315) qF_RX7_34 rfl rfl dX7_layRounds_77 ?_
      refine p_iconst (v := 4) (by decide) dX7_layRounds_80 ?_
      refine p_iload_n rfl dX7_layRounds_81 ?_
      refine p_imul dX7_layRounds_82 ?_
      refine p_iload rfl dX7_layRounds_83 ?_
      refine p_iadd dX7_layRounds_85 ?_
      obtain ⟨hg, hF⟩ := ok_g hF
      refine p_iald rfl (inb_in hg) dX7_layRounds_86 ?_
      refine p_istore (Nat.le_of_ble_eq_true rfl) rfl dX7_layRounds_87 ?_
      refine p_iload_n rfl dX7_layRounds_89 ?_
      refine p_if_ne (tgt := 110) dX7_layRounds_90 (by decide) (fun hc => ?_) (fun hc => ?_)
      · have hF := ok_f hc hF
        exact p_lv [0, 2, 3, 4, 5, 6] rfl (b_X7_layRounds_110 ih _ _ _ _ _ _ hF)
      · have hF := ok_t hc hF
        refine p_aload_n rfl dX7_layRounds_93 ?_
        refine p_getR (c1 := 317) qF_RX7_37 rfl rfl dX7_layRounds_94 ?_
        refine p_iload rfl dX7_layRounds_97 ?_
        obtain ⟨hg, hF⟩ := ok_g hF
        refine p_iald rfl (inb_in hg) dX7_layRounds_99 ?_
        refine p_aload_n rfl dX7_layRounds_100 ?_
        refine p_getR (c1 := 317) qF_RX7_37 rfl rfl dX7_layRounds_101 ?_
        refine p_iload rfl dX7_layRounds_104 ?_
        obtain ⟨hg, hF⟩ := ok_g hF
        refine p_iald rfl (inb_in hg) dX7_layRounds_106 ?_
        refine p_icmp_gt (tgt := 114) dX7_layRounds_107 (by decide) (fun hc => ?_) (fun hc => ?_)
        · have hF := ok_t hc hF
          refine p_iconst (v := 0) (by decide) dX7_layRounds_114 ?_
          exact p_lv [0, 2, 3, 4, 5, 6] rfl (b_X7_layRounds_115 ih _ _ _ _ _ _ _ hF)
        · have hF := ok_f hc hF
          exact p_lv [0, 2, 3, 4, 5, 6] rfl (b_X7_layRounds_110 ih _ _ _ _ _ _ hF)
theorem l_X7_layRounds_39 {d : Nat} {Q : Option Value → Hp → Prop} {k154 : Int32 → Int32 → Hp → Option (Int32 × Hp)} (hk154 : ∀ (z1 : Int32) (z2 : Int32) (s2 : Hp), ok jI (k154 z1 z2 s2) Q → pw tM (d + 1) mX7_layRounds 154 [(0, .ref 300), (1, .int z1), (2, .int z2)] [] s2 Q) : ∀ (n : Nat) (v1 : Int32) (v2 : Int32) (v3 : Int32) (sg : Hp), ok jI (L_X7_layRounds_39 k154 n v1 v2 v3 sg) Q → pw tM (d + 1) mX7_layRounds 39 [(0, .ref 300), (1, .int v1), (2, .int v2), (3, .int v3)] [] sg Q := by
  intro n
  induction n with
  | zero =>
    intro v1 v2 v3 sg hF
    obtain ⟨_, _, h9, _⟩ := hF
    cases h9
  | succ n ih =>
    intro v1 v2 v3 sg hF
    refine p_iload_n rfl dX7_layRounds_39 ?_
    refine p_aload_n rfl dX7_layRounds_40 ?_
    refine p_getI qF_RX7_190 rfl rfl dX7_layRounds_41 ?_
    refine p_icmp_ge (tgt := 154) dX7_layRounds_44 (by decide) (fun hc => ?_) (fun hc => ?_)
    · have hF := ok_t hc hF
      exact p_lv [0, 1, 2] rfl (hk154 _ _ _ hF)
    · have hF := ok_f hc hF
      refine p_iconst (v := 1) (by decide) dX7_layRounds_47 ?_
      refine p_istore (Nat.le_of_ble_eq_true rfl) rfl dX7_layRounds_48 ?_
      refine p_lv [0, 1, 2, 3, 4] rfl (l_X7_layRounds_50 ?_ 200 _ _ _ _ _ hF)
      intro w5_1 w5_2 w5_3 s6 hF
      refine p_iinc (w := 1) (by decide) rfl (Nat.le_of_ble_eq_true rfl) rfl dX7_layRounds_148 ?_
      refine p_goto (tgt := 39) dX7_layRounds_151 (by decide) ?_
      exact p_lv [0, 1, 2, 3] rfl (ih _ _ _ _ hF)
theorem l_X7_layRounds_25 {d : Nat} {Q : Option Value → Hp → Prop} {k160 : Int32 → Hp → Option (Int32 × Hp)} (hk160 : ∀ (z1 : Int32) (s2 : Hp), ok jI (k160 z1 s2) Q → pw tM (d + 1) mX7_layRounds 160 [(1, .int z1)] [] s2 Q) : ∀ (n : Nat) (v1 : Int32) (v2 : Int32) (sg : Hp), ok jI (L_X7_layRounds_25 k160 n v1 v2 sg) Q → pw tM (d + 1) mX7_layRounds 25 [(0, .ref 300), (1, .int v1), (2, .int v2)] [] sg Q := by
  intro n
  induction n with
  | zero =>
    intro v1 v2 sg hF
    obtain ⟨_, _, h9, _⟩ := hF
    cases h9
  | succ n ih =>
    intro v1 v2 sg hF
    refine p_iload_n rfl dX7_layRounds_25 ?_
    refine p_bipush (v := 7) (by decide) dX7_layRounds_26 ?_
    refine p_icmp_ge (tgt := 160) dX7_layRounds_28 (by decide) (fun hc => ?_) (fun hc => ?_)
    · have hF := ok_t hc hF
      exact p_lv [1] rfl (hk160 _ _ hF)
    · have hF := ok_f hc hF
      refine p_iload_n rfl dX7_layRounds_31 ?_
      refine p_if_eq (tgt := 160) dX7_layRounds_32 (by decide) (fun hc => ?_) (fun hc => ?_)
      · have hF := ok_t hc hF
        exact p_lv [1] rfl (hk160 _ _ hF)
      · have hF := ok_f hc hF
        refine p_iconst (v := 0) (by decide) dX7_layRounds_35 ?_
        refine p_istore_n (Nat.le_of_ble_eq_true rfl) rfl dX7_layRounds_36 ?_
        refine p_iconst (v := 0) (by decide) dX7_layRounds_37 ?_
        refine p_istore_n (Nat.le_of_ble_eq_true rfl) rfl dX7_layRounds_38 ?_
        refine p_lv [0, 1, 2, 3] rfl (l_X7_layRounds_39 ?_ 200 _ _ _ _ hF)
        intro w7_1 w7_2 s8 hF
        refine p_iinc (w := 1) (by decide) rfl (Nat.le_of_ble_eq_true rfl) rfl dX7_layRounds_154 ?_
        refine p_goto (tgt := 25) dX7_layRounds_157 (by decide) ?_
        exact p_lv [0, 1, 2] rfl (ih _ _ _ hF)
theorem b_X7_layRounds_169 {d : Nat} {Q : Option Value → Hp → Prop}  (vk0 : Int32) (sg : Hp) (hF : ok jI (B_X7_layRounds_169  vk0 sg) Q) : pw tM (d + 1) mX7_layRounds 169 [] [.int vk0] sg Q := by
  unfold B_X7_layRounds_169 at hF
  obtain ⟨hg, hF⟩ := ok_g hF
  exact p_zret rfl (b01_n hg).1 dX7_layRounds_169 (ok_r (j := jI) hF)
theorem tX7_layRounds {d : Nat} (hd : 1 ≤ d) {Q : Option Value → Hp → Prop}  {sg : Hp} (hF : ok jI (fX7_layRounds  sg) Q) : pw tM d mX7_layRounds 0 (lv_args 0 [.ref 300]) [] sg Q := by
  unfold fX7_layRounds at hF
  obtain ⟨d, rfl⟩ : ∃ e, d = e + 1 := ⟨d - 1, by omega⟩
  show pw _ _ _ _ [(0, .ref 300)] [] _ _
  refine p_iconst (v := 0) (by decide) dX7_layRounds_0 ?_
  refine p_istore_n (Nat.le_of_ble_eq_true rfl) rfl dX7_layRounds_1 ?_
  refine p_lv [0, 1] rfl (l_X7_layRounds_2 ?_ 200 _ _ hF)
  intro s2 hF
  refine p_iconst (v := 1) (by decide) dX7_layRounds_21 ?_
  refine p_istore_n (Nat.le_of_ble_eq_true rfl) rfl dX7_layRounds_22 ?_
  refine p_iconst (v := 0) (by decide) dX7_layRounds_23 ?_
  refine p_istore_n (Nat.le_of_ble_eq_true rfl) rfl dX7_layRounds_24 ?_
  refine p_lv [0, 1, 2] rfl (l_X7_layRounds_25 ?_ 200 _ _ _ hF)
  intro w9_1 s10 hF
  refine p_iload_n rfl dX7_layRounds_160 ?_
  refine p_if_ne (tgt := 168) dX7_layRounds_161 (by decide) (fun hc => ?_) (fun hc => ?_)
  · have hF := ok_f hc hF
    refine p_iconst (v := 0) (by decide) dX7_layRounds_168 ?_
    exact p_lv [] rfl (b_X7_layRounds_169  _ _ hF)
  · have hF := ok_t hc hF
    refine p_iconst (v := 1) (by decide) dX7_layRounds_164 ?_
    refine p_goto (tgt := 169) dX7_layRounds_165 (by decide) ?_
    exact p_lv [] rfl (b_X7_layRounds_169  _ _ hF)
theorem b_X7_ring_12 {d : Nat} (hd : 1 ≤ d) {Q : Option Value → Hp → Prop}  (vk0 : Int32) (sg : Hp) (hF : ok jI (B_X7_ring_12  vk0 sg) Q) : pw tM (d + 1) mX7_ring 12 [] [.int vk0] sg Q := by
  unfold B_X7_ring_12 at hF
  exact p_iret rfl dX7_ring_12 (ok_r (j := jI) hF)
theorem tX7_ring {d : Nat} (hd : 2 ≤ d) {Q : Option Value → Hp → Prop}  {sg : Hp} (hF : ok jI (fX7_ring  sg) Q) : pw tM d mX7_ring 0 (lv_args 0 [.ref 300]) [] sg Q := by
  unfold fX7_ring at hF
  obtain ⟨d, rfl⟩ : ∃ e, d = e + 1 := ⟨d - 1, by omega⟩
  have hd : 1 ≤ d := by omega
  show pw _ _ _ _ [(0, .ref 300)] [] _ _
  refine p_aload_n rfl dX7_ring_0 ?_
  refine p_callV (c0 := 300) (av := []) qV_RX7_209 rfl rfl rfl rfl (Nat.le_of_ble_eq_true rfl) (Nat.le_of_ble_eq_true rfl) dX7_ring_1 (tX7_layRounds (by omega) (ok_b hF)) (fun r0 s2 hF => ?_)
  obtain ⟨r1, rfl, hF⟩ := hF
  refine p_if_eq (tgt := 11) dX7_ring_4 (by decide) (fun hc => ?_) (fun hc => ?_)
  · have hF := ok_t hc hF
    refine p_iconst (v := 1) (by decide) dX7_ring_11 ?_
    exact p_lv [] rfl (b_X7_ring_12 hd  _ _ hF)
  · have hF := ok_f hc hF
    refine p_iconst (v := 0) (by decide) dX7_ring_7 ?_
    refine p_goto (tgt := 12) dX7_ring_8 (by decide) ?_
    exact p_lv [] rfl (b_X7_ring_12 hd  _ _ hF)
theorem b_X7_areServed_51 {d : Nat} {Q : Option Value → Hp → Prop} {k14 : Int32 → Int32 → Int32 → Hp → Option (Int32 × Hp)} (hk14 : ∀ (z1 : Int32) (z2 : Int32) (z3 : Int32) (s2 : Hp), ok jI (k14 z1 z2 z3 s2) Q → pw tM d mX7_areServed 14 [(0, .ref 300), (1, .int z1), (2, .int z2), (3, .int z3)] [] s2 Q) (v2 : Int32) (v3 : Int32) (vk0 : Int32) (sg : Hp) (hF : ok jI (B_X7_areServed_51 k14 v2 v3 vk0 sg) Q) : pw tM d mX7_areServed 51 [(0, .ref 300), (2, .int v2), (3, .int v3)] [.int vk0] sg Q := by
  unfold B_X7_areServed_51 at hF
  refine p_istore_n (Nat.le_of_ble_eq_true rfl) rfl dX7_areServed_51 ?_
  refine p_iinc (w := 1) (by decide) rfl (Nat.le_of_ble_eq_true rfl) rfl dX7_areServed_52 ?_
  refine p_goto (tgt := 14) dX7_areServed_55 (by decide) ?_
  exact p_lv [0, 1, 2, 3] rfl (hk14 _ _ _ _ hF)
theorem b_X7_areServed_50 {d : Nat} {Q : Option Value → Hp → Prop} {k14 : Int32 → Int32 → Int32 → Hp → Option (Int32 × Hp)} (hk14 : ∀ (z1 : Int32) (z2 : Int32) (z3 : Int32) (s2 : Hp), ok jI (k14 z1 z2 z3 s2) Q → pw tM d mX7_areServed 14 [(0, .ref 300), (1, .int z1), (2, .int z2), (3, .int z3)] [] s2 Q) (v2 : Int32) (v3 : Int32) (sg : Hp) (hF : ok jI (B_X7_areServed_50 k14 v2 v3 sg) Q) : pw tM d mX7_areServed 50 [(0, .ref 300), (2, .int v2), (3, .int v3)] [] sg Q := by
  unfold B_X7_areServed_50 at hF
  refine p_iconst (v := 0) (by decide) dX7_areServed_50 ?_
  exact p_lv [0, 2, 3] rfl (b_X7_areServed_51 hk14 _ _ _ _ hF)
theorem l_X7_areServed_14 {d : Nat} {Q : Option Value → Hp → Prop} {k58 : Int32 → Int32 → Hp → Option (Int32 × Hp)} (hk58 : ∀ (z1 : Int32) (z2 : Int32) (s2 : Hp), ok jI (k58 z1 z2 s2) Q → pw tM d mX7_areServed 58 [(0, .ref 300), (1, .int z1), (2, .int z2)] [] s2 Q) : ∀ (n : Nat) (v1 : Int32) (v2 : Int32) (v3 : Int32) (sg : Hp), ok jI (L_X7_areServed_14 k58 n v1 v2 v3 sg) Q → pw tM d mX7_areServed 14 [(0, .ref 300), (1, .int v1), (2, .int v2), (3, .int v3)] [] sg Q := by
  intro n
  induction n with
  | zero =>
    intro v1 v2 v3 sg hF
    obtain ⟨_, _, h9, _⟩ := hF
    cases h9
  | succ n ih =>
    intro v1 v2 v3 sg hF
    refine p_iload_n rfl dX7_areServed_14 ?_
    refine p_aload_n rfl dX7_areServed_15 ?_
    refine p_getR (c1 := 314) qF_RX7_31 rfl rfl dX7_areServed_16 ?_
    refine p_iload_n rfl dX7_areServed_19 ?_
    obtain ⟨hg, hF⟩ := ok_g hF
    refine p_iald rfl (inb_in hg) dX7_areServed_20 ?_
    refine p_icmp_ge (tgt := 58) dX7_areServed_21 (by decide) (fun hc => ?_) (fun hc => ?_)
    · have hF := ok_t hc hF
      exact p_lv [0, 1, 2] rfl (hk58 _ _ _ hF)
    · have hF := ok_f hc hF
      refine p_iload_n rfl dX7_areServed_24 ?_
      refine p_if_eq (tgt := 50) dX7_areServed_25 (by decide) (fun hc => ?_) (fun hc => ?_)
      · have hF := ok_t hc hF
        exact p_lv [0, 2, 3] rfl (b_X7_areServed_50 ih _ _ _ hF)
      · have hF := ok_f hc hF
        refine p_aload_n rfl dX7_areServed_28 ?_
        refine p_getR (c1 := 311) qF_RX7_25 rfl rfl dX7_areServed_29 ?_
        refine p_aload_n rfl dX7_areServed_32 ?_
        refine p_getR (c1 := 315) qF_RX7_34 rfl rfl dX7_areServed_33 ?_
        refine p_iconst (v := 4) (by decide) dX7_areServed_36 ?_
        refine p_iload_n rfl dX7_areServed_37 ?_
        refine p_imul dX7_areServed_38 ?_
        refine p_iload_n rfl dX7_areServed_39 ?_
        refine p_iadd dX7_areServed_40 ?_
        obtain ⟨hg, hF⟩ := ok_g hF
        refine p_iald rfl (inb_in hg) dX7_areServed_41 ?_
        obtain ⟨hg, hF⟩ := ok_g hF
        refine p_iald rfl (inb_in hg) dX7_areServed_42 ?_
        refine p_if_lt (tgt := 50) dX7_areServed_43 (by decide) (fun hc => ?_) (fun hc => ?_)
        · have hF := ok_t hc hF
          exact p_lv [0, 2, 3] rfl (b_X7_areServed_50 ih _ _ _ hF)
        · have hF := ok_f hc hF
          refine p_iconst (v := 1) (by decide) dX7_areServed_46 ?_
          refine p_goto (tgt := 51) dX7_areServed_47 (by decide) ?_
          exact p_lv [0, 2, 3] rfl (b_X7_areServed_51 ih _ _ _ _ hF)
theorem l_X7_areServed_4 {d : Nat} {Q : Option Value → Hp → Prop} {k64 : Int32 → Hp → Option (Int32 × Hp)} (hk64 : ∀ (z1 : Int32) (s2 : Hp), ok jI (k64 z1 s2) Q → pw tM d mX7_areServed 64 [(1, .int z1)] [] s2 Q) : ∀ (n : Nat) (v1 : Int32) (v2 : Int32) (sg : Hp), ok jI (L_X7_areServed_4 k64 n v1 v2 sg) Q → pw tM d mX7_areServed 4 [(0, .ref 300), (1, .int v1), (2, .int v2)] [] sg Q := by
  intro n
  induction n with
  | zero =>
    intro v1 v2 sg hF
    obtain ⟨_, _, h9, _⟩ := hF
    cases h9
  | succ n ih =>
    intro v1 v2 sg hF
    refine p_iload_n rfl dX7_areServed_4 ?_
    refine p_aload_n rfl dX7_areServed_5 ?_
    refine p_getI qF_RX7_190 rfl rfl dX7_areServed_6 ?_
    refine p_icmp_ge (tgt := 64) dX7_areServed_9 (by decide) (fun hc => ?_) (fun hc => ?_)
    · have hF := ok_t hc hF
      exact p_lv [1] rfl (hk64 _ _ hF)
    · have hF := ok_f hc hF
      refine p_iconst (v := 0) (by decide) dX7_areServed_12 ?_
      refine p_istore_n (Nat.le_of_ble_eq_true rfl) rfl dX7_areServed_13 ?_
      refine p_lv [0, 1, 2, 3] rfl (l_X7_areServed_14 ?_ 200 _ _ _ _ hF)
      intro w1_1 w1_2 s2 hF
      refine p_iinc (w := 1) (by decide) rfl (Nat.le_of_ble_eq_true rfl) rfl dX7_areServed_58 ?_
      refine p_goto (tgt := 4) dX7_areServed_61 (by decide) ?_
      exact p_lv [0, 1, 2] rfl (ih _ _ _ hF)
theorem tX7_areServed {d : Nat} {Q : Option Value → Hp → Prop}  {sg : Hp} (hF : ok jI (fX7_areServed  sg) Q) : pw tM d mX7_areServed 0 (lv_args 0 [.ref 300]) [] sg Q := by
  unfold fX7_areServed at hF
  show pw _ _ _ _ [(0, .ref 300)] [] _ _
  refine p_iconst (v := 1) (by decide) dX7_areServed_0 ?_
  refine p_istore_n (Nat.le_of_ble_eq_true rfl) rfl dX7_areServed_1 ?_
  refine p_iconst (v := 0) (by decide) dX7_areServed_2 ?_
  refine p_istore_n (Nat.le_of_ble_eq_true rfl) rfl dX7_areServed_3 ?_
  refine p_lv [0, 1, 2] rfl (l_X7_areServed_4 ?_ 200 _ _ _ hF)
  intro w3_1 s4 hF
  refine p_iload_n rfl dX7_areServed_64 ?_
  obtain ⟨hg, hF⟩ := ok_g hF
  exact p_zret rfl (b01_n hg).1 dX7_areServed_65 (ok_r (j := jI) hF)
theorem l_X7_placeOf_2 {d : Nat} {Q : Option Value → Hp → Prop} {k34 : Hp → Option (Int32 × Hp)} (hk34 : ∀ (s2 : Hp), ok jI (k34 s2) Q → pw tM d mX7_placeOf 34 [] [] s2 Q) {k26 : Int32 → Hp → Option (Int32 × Hp)} (hk26 : ∀ (z3 : Int32) (s2 : Hp), ok jI (k26 z3 s2) Q → pw tM d mX7_placeOf 26 [(3, .int z3)] [] s2 Q) : ∀ (n : Nat) (v1 : Int32) (v2 : Int32) (v3 : Int32) (sg : Hp), ok jI (L_X7_placeOf_2 k34 k26 n v1 v2 v3 sg) Q → pw tM d mX7_placeOf 2 [(0, .ref 300), (1, .int v1), (2, .int v2), (3, .int v3)] [] sg Q := by
  intro n
  induction n with
  | zero =>
    intro v1 v2 v3 sg hF
    obtain ⟨_, _, h9, _⟩ := hF
    cases h9
  | succ n ih =>
    intro v1 v2 v3 sg hF
    refine p_iload_n rfl dX7_placeOf_2 ?_
    refine p_aload_n rfl dX7_placeOf_3 ?_
    refine p_getR (c1 := 314) qF_RX7_31 rfl rfl dX7_placeOf_4 ?_
    refine p_iload_n rfl dX7_placeOf_7 ?_
    obtain ⟨hg, hF⟩ := ok_g hF
    refine p_iald rfl (inb_in hg) dX7_placeOf_8 ?_
    refine p_icmp_ge (tgt := 34) dX7_placeOf_9 (by decide) (fun hc => ?_) (fun hc => ?_)
    · have hF := ok_t hc hF
      exact p_lv [] rfl (hk34 _ hF)
    · have hF := ok_f hc hF
      refine p_aload_n rfl dX7_placeOf_12 ?_
      refine p_getR (c1 := 315) qF_RX7_34 rfl rfl dX7_placeOf_13 ?_
      refine p_iconst (v := 4) (by decide) dX7_placeOf_16 ?_
      refine p_iload_n rfl dX7_placeOf_17 ?_
      refine p_imul dX7_placeOf_18 ?_
      refine p_iload_n rfl dX7_placeOf_19 ?_
      refine p_iadd dX7_placeOf_20 ?_
      obtain ⟨hg, hF⟩ := ok_g hF
      refine p_iald rfl (inb_in hg) dX7_placeOf_21 ?_
      refine p_iload_n rfl dX7_placeOf_22 ?_
      refine p_icmp_ne (tgt := 28) dX7_placeOf_23 (by decide) (fun hc => ?_) (fun hc => ?_)
      · have hF := ok_f hc hF
        refine p_iinc (w := 1) (by decide) rfl (Nat.le_of_ble_eq_true rfl) rfl dX7_placeOf_28 ?_
        refine p_goto (tgt := 2) dX7_placeOf_31 (by decide) ?_
        exact p_lv [0, 1, 2, 3] rfl (ih _ _ _ _ hF)
      · have hF := ok_t hc hF
        exact p_lv [3] rfl (hk26 _ _ hF)
theorem tX7_placeOf {d : Nat} {Q : Option Value → Hp → Prop} {a1 : Int32} {a2 : Int32} {sg : Hp} (hF : ok jI (fX7_placeOf a1 a2 sg) Q) : pw tM d mX7_placeOf 0 (lv_args 0 [.ref 300, .int a1, .int a2]) [] sg Q := by
  unfold fX7_placeOf at hF
  show pw _ _ _ _ [(0, .ref 300), (1, .int a1), (2, .int a2)] [] _ _
  refine p_iconst (v := 0) (by decide) dX7_placeOf_0 ?_
  refine p_istore_n (Nat.le_of_ble_eq_true rfl) rfl dX7_placeOf_1 ?_
  refine p_lv [0, 1, 2, 3] rfl (l_X7_placeOf_2 ?_ ?_ 200 _ _ _ _ hF)
  · intro s2 hF
    refine p_bipush (v := -9) (by decide) dX7_placeOf_34 ?_
    exact p_iret rfl dX7_placeOf_36 (ok_r (j := jI) hF)
  · intro w3_3 s4 hF
    refine p_iload_n rfl dX7_placeOf_26 ?_
    exact p_iret rfl dX7_placeOf_27 (ok_r (j := jI) hF)
theorem l_X7_layZero_2 {d : Nat} {Q : Option Value → Hp → Prop} {k21 : Hp → Option (Unit × Hp)} (hk21 : ∀ (s2 : Hp), ok jV (k21 s2) Q → pw tM (d + 1) mX7_layZero 21 [] [] s2 Q) : ∀ (n : Nat) (v1 : Int32) (v2 : Int32) (sg : Hp), ok jV (L_X7_layZero_2 k21 n v1 v2 sg) Q → pw tM (d + 1) mX7_layZero 2 [(0, .ref 300), (1, .int v1), (2, .int v2)] [] sg Q := by
  intro n
  induction n with
  | zero =>
    intro v1 v2 sg hF
    obtain ⟨_, _, h9, _⟩ := hF
    cases h9
  | succ n ih =>
    intro v1 v2 sg hF
    refine p_iload_n rfl dX7_layZero_2 ?_
    refine p_bipush (v := 41) (by decide) dX7_layZero_3 ?_
    refine p_icmp_ge (tgt := 21) dX7_layZero_5 (by decide) (fun hc => ?_) (fun hc => ?_)
    · have hF := ok_t hc hF
      exact p_lv [] rfl (hk21 _ hF)
    · have hF := ok_f hc hF
      refine p_aload_n rfl dX7_layZero_8 ?_
      refine p_iload_n rfl dX7_layZero_9 ?_
      refine p_iload_n rfl dX7_layZero_10 ?_
      refine p_lconst (v := 0) (by decide) dX7_layZero_11 ?_
      refine p_callV (c0 := 300) (av := [.int _, .int _, .long _]) qV_RX7_88 rfl rfl rfl rfl (Nat.le_of_ble_eq_true rfl) (Nat.le_of_ble_eq_true rfl) dX7_layZero_12 (tX7_set (ok_b hF)) (fun r0 s2 hF => ?_)
      obtain ⟨r1, rfl, hF⟩ := hF
      refine p_iinc (w := 1) (by decide) rfl (Nat.le_of_ble_eq_true rfl) rfl dX7_layZero_15 ?_
      refine p_goto (tgt := 2) dX7_layZero_18 (by decide) ?_
      exact p_lv [0, 1, 2] rfl (ih _ _ _ hF)
theorem tX7_layZero {d : Nat} (hd : 1 ≤ d) {Q : Option Value → Hp → Prop} {a1 : Int32} {sg : Hp} (hF : ok jV (fX7_layZero a1 sg) Q) : pw tM d mX7_layZero 0 (lv_args 0 [.ref 300, .int a1]) [] sg Q := by
  unfold fX7_layZero at hF
  obtain ⟨d, rfl⟩ : ∃ e, d = e + 1 := ⟨d - 1, by omega⟩
  show pw _ _ _ _ [(0, .ref 300), (1, .int a1)] [] _ _
  refine p_iconst (v := 0) (by decide) dX7_layZero_0 ?_
  refine p_istore_n (Nat.le_of_ble_eq_true rfl) rfl dX7_layZero_1 ?_
  refine p_lv [0, 1, 2] rfl (l_X7_layZero_2 ?_ 200 _ _ _ hF)
  intro s4 hF
  exact p_vret rfl dX7_layZero_21 (ok_r (j := jV) hF)
theorem b_X7_laySum_54 {d : Nat} (hd : 2 ≤ d) {Q : Option Value → Hp → Prop} {k9 : Int32 → Int32 → Int32 → Int32 → Int32 → Hp → Option (Unit × Hp)} (hk9 : ∀ (z1 : Int32) (z2 : Int32) (z3 : Int32) (z4 : Int32) (z5 : Int32) (s2 : Hp), ok jV (k9 z1 z2 z3 z4 z5 s2) Q → pw tM (d + 1) mX7_laySum 9 [(0, .ref 300), (1, .int z1), (2, .int z2), (3, .int z3), (4, .int z4), (5, .int z5)] [] s2 Q) (v1 : Int32) (v2 : Int32) (v3 : Int32) (v4 : Int32) (v5 : Int32) (sg : Hp) (hF : ok jV (B_X7_laySum_54 k9 v1 v2 v3 v4 v5 sg) Q) : pw tM (d + 1) mX7_laySum 54 [(0, .ref 300), (1, .int v1), (2, .int v2), (3, .int v3), (4, .int v4), (5, .int v5)] [] sg Q := by
  unfold B_X7_laySum_54 at hF
  refine p_iinc (w := 1) (by decide) rfl (Nat.le_of_ble_eq_true rfl) rfl dX7_laySum_54 ?_
  refine p_goto (tgt := 9) dX7_laySum_57 (by decide) ?_
  exact p_lv [0, 1, 2, 3, 4, 5] rfl (hk9 _ _ _ _ _ _ hF)
theorem l_X7_laySum_9 {d : Nat} (hd : 2 ≤ d) {Q : Option Value → Hp → Prop} {k60 : Hp → Option (Unit × Hp)} (hk60 : ∀ (s2 : Hp), ok jV (k60 s2) Q → pw tM (d + 1) mX7_laySum 60 [] [] s2 Q) : ∀ (n : Nat) (v1 : Int32) (v2 : Int32) (v3 : Int32) (v4 : Int32) (v5 : Int32) (sg : Hp), ok jV (L_X7_laySum_9 k60 n v1 v2 v3 v4 v5 sg) Q → pw tM (d + 1) mX7_laySum 9 [(0, .ref 300), (1, .int v1), (2, .int v2), (3, .int v3), (4, .int v4), (5, .int v5)] [] sg Q := by
  intro n
  induction n with
  | zero =>
    intro v1 v2 v3 v4 v5 sg hF
    obtain ⟨_, _, h9, _⟩ := hF
    cases h9
  | succ n ih =>
    intro v1 v2 v3 v4 v5 sg hF
    refine p_iload rfl dX7_laySum_9 ?_
    refine p_iload_n rfl dX7_laySum_11 ?_
    refine p_icmp_ge (tgt := 60) dX7_laySum_12 (by decide) (fun hc => ?_) (fun hc => ?_)
    · have hF := ok_t hc hF
      exact p_lv [] rfl (hk60 _ hF)
    · have hF := ok_f hc hF
      refine p_aload_n rfl dX7_laySum_15 ?_
      refine p_iload rfl dX7_laySum_16 ?_
      refine p_iload_n rfl dX7_laySum_18 ?_
      refine p_callV (c0 := 300) (av := [.int _, .int _]) qV_RX7_217 rfl rfl rfl rfl (Nat.le_of_ble_eq_true rfl) (Nat.le_of_ble_eq_true rfl) dX7_laySum_19 (tX7_placeOf (ok_b hF)) (fun r0 s4 hF => ?_)
      obtain ⟨r3, rfl, hF⟩ := hF
      refine p_istore (Nat.le_of_ble_eq_true rfl) rfl dX7_laySum_22 ?_
      refine p_iload rfl dX7_laySum_24 ?_
      refine p_if_lt (tgt := 54) dX7_laySum_26 (by decide) (fun hc => ?_) (fun hc => ?_)
      · have hF := ok_t hc hF
        exact p_lv [0, 1, 2, 3, 4, 5] rfl (b_X7_laySum_54 hd ih _ _ _ _ _ _ hF)
      · have hF := ok_f hc hF
        refine p_iload rfl dX7_laySum_29 ?_
        refine p_iload_n rfl dX7_laySum_31 ?_
        refine p_icmp_eq (tgt := 54) dX7_laySum_32 (by decide) (fun hc => ?_) (fun hc => ?_)
        · have hF := ok_t hc hF
          exact p_lv [0, 1, 2, 3, 4, 5] rfl (b_X7_laySum_54 hd ih _ _ _ _ _ _ hF)
        · have hF := ok_f hc hF
          refine p_aload_n rfl dX7_laySum_35 ?_
          refine p_iconst (v := 1) (by decide) dX7_laySum_36 ?_
          refine p_iload rfl dX7_laySum_37 ?_
          refine p_bipush (v := 24) (by decide) dX7_laySum_39 ?_
          refine p_iconst (v := 4) (by decide) dX7_laySum_41 ?_
          refine p_iload rfl dX7_laySum_42 ?_
          refine p_imul dX7_laySum_44 ?_
          refine p_iadd dX7_laySum_45 ?_
          refine p_iload rfl dX7_laySum_46 ?_
          refine p_iadd dX7_laySum_48 ?_
          refine p_iload rfl dX7_laySum_49 ?_
          refine p_callV (c0 := 300) (av := [.int _, .int _, .int _, .int _]) qV_RX7_157 rfl rfl rfl rfl (Nat.le_of_ble_eq_true rfl) (Nat.le_of_ble_eq_true rfl) dX7_laySum_51 (tX7_layBoth (by omega) (ok_b hF)) (fun r0 s6 hF => ?_)
          obtain ⟨r5, rfl, hF⟩ := hF
          exact p_lv [0, 1, 2, 3, 4, 5] rfl (b_X7_laySum_54 hd ih _ _ _ _ _ _ hF)
theorem tX7_laySum {d : Nat} (hd : 3 ≤ d) {Q : Option Value → Hp → Prop} {a1 : Int32} {a2 : Int32} {a3 : Int32} {a4 : Int32} {sg : Hp} (hF : ok jV (fX7_laySum a1 a2 a3 a4 sg) Q) : pw tM d mX7_laySum 0 (lv_args 0 [.ref 300, .int a1, .int a2, .int a3, .int a4]) [] sg Q := by
  unfold fX7_laySum at hF
  obtain ⟨d, rfl⟩ : ∃ e, d = e + 1 := ⟨d - 1, by omega⟩
  have hd : 2 ≤ d := by omega
  show pw _ _ _ _ [(0, .ref 300), (1, .int a1), (2, .int a2), (3, .int a3), (4, .int a4)] [] _ _
  refine p_aload_n rfl dX7_laySum_0 ?_
  refine p_iload rfl dX7_laySum_1 ?_
  refine p_callV (c0 := 300) (av := [.int _]) qV_RX7_213 rfl rfl rfl rfl (Nat.le_of_ble_eq_true rfl) (Nat.le_of_ble_eq_true rfl) dX7_laySum_3 (tX7_layZero (by omega) (ok_b hF)) (fun r0 s2 hF => ?_)
  obtain ⟨r1, rfl, hF⟩ := hF
  refine p_iconst (v := 0) (by decide) dX7_laySum_6 ?_
  refine p_istore (Nat.le_of_ble_eq_true rfl) rfl dX7_laySum_7 ?_
  refine p_lv [0, 1, 2, 3, 4, 5] rfl (l_X7_laySum_9 hd ?_ 200 _ _ _ _ _ _ hF)
  intro s8 hF
  exact p_vret rfl dX7_laySum_60 (ok_r (j := jV) hF)
theorem b_X7_layThere_208 {d : Nat} (hd : 3 ≤ d) {Q : Option Value → Hp → Prop}   (sg : Hp) (hF : ok jI (B_X7_layThere_208   sg) Q) : pw tM (d + 1) mX7_layThere 208 [] [] sg Q := by
  unfold B_X7_layThere_208 at hF
  refine p_iconst (v := 1) (by decide) dX7_layThere_208 ?_
  exact p_zret rfl rfl dX7_layThere_209 (ok_r (j := jI) hF)
theorem b_X7_layThere_143 {d : Nat} (hd : 3 ≤ d) {Q : Option Value → Hp → Prop}  (v4 : Int32) (sg : Hp) (hF : ok jI (B_X7_layThere_143  v4 sg) Q) : pw tM (d + 1) mX7_layThere 143 [(0, .ref 300), (4, .int v4)] [] sg Q := by
  unfold B_X7_layThere_143 at hF
  refine p_aload_n rfl dX7_layThere_143 ?_
  refine p_getR (c1 := 318) qF_RX7_40 rfl rfl dX7_layThere_144 ?_
  refine p_iload rfl dX7_layThere_147 ?_
  obtain ⟨hg, hF⟩ := ok_g hF
  refine p_iald rfl (inb_in hg) dX7_layThere_149 ?_
  refine p_if_ge (tgt := 155) dX7_layThere_150 (by decide) (fun hc => ?_) (fun hc => ?_)
  · have hF := ok_t hc hF
    refine p_aload_n rfl dX7_layThere_155 ?_
    refine p_getI qF_RX7_206 rfl rfl dX7_layThere_156 ?_
    refine p_iconst (v := 2) (by decide) dX7_layThere_159 ?_
    refine p_icmp_ne (tgt := 188) dX7_layThere_160 (by decide) (fun hc => ?_) (fun hc => ?_)
    · have hF := ok_f hc hF
      refine p_aload_n rfl dX7_layThere_188 ?_
      refine p_iconst (v := 3) (by decide) dX7_layThere_189 ?_
      refine p_bipush (v := 24) (by decide) dX7_layThere_190 ?_
      refine p_iload rfl dX7_layThere_192 ?_
      refine p_iadd dX7_layThere_194 ?_
      refine p_bipush (v := 44) (by decide) dX7_layThere_195 ?_
      refine p_iload rfl dX7_layThere_197 ?_
      refine p_iadd dX7_layThere_199 ?_
      refine p_bipush (v := 64) (by decide) dX7_layThere_200 ?_
      refine p_iload rfl dX7_layThere_202 ?_
      refine p_iadd dX7_layThere_204 ?_
      refine p_callV (c0 := 300) (av := [.int _, .int _, .int _, .int _]) qV_RX7_157 rfl rfl rfl rfl (Nat.le_of_ble_eq_true rfl) (Nat.le_of_ble_eq_true rfl) dX7_layThere_205 (tX7_layBoth (by omega) (ok_b hF)) (fun r0 s8 hF => ?_)
      obtain ⟨r7, rfl, hF⟩ := hF
      exact p_lv [] rfl (b_X7_layThere_208 hd  _ hF)
    · have hF := ok_t hc hF
      refine p_aload_n rfl dX7_layThere_163 ?_
      refine p_iconst (v := 1) (by decide) dX7_layThere_164 ?_
      refine p_bipush (v := 24) (by decide) dX7_layThere_165 ?_
      refine p_iload rfl dX7_layThere_167 ?_
      refine p_iadd dX7_layThere_169 ?_
      refine p_aload_n rfl dX7_layThere_170 ?_
      refine p_getR (c1 := 318) qF_RX7_40 rfl rfl dX7_layThere_171 ?_
      refine p_iload rfl dX7_layThere_174 ?_
      obtain ⟨hg, hF⟩ := ok_g hF
      refine p_iald rfl (inb_in hg) dX7_layThere_176 ?_
      refine p_bipush (v := 64) (by decide) dX7_layThere_177 ?_
      refine p_iload rfl dX7_layThere_179 ?_
      refine p_iadd dX7_layThere_181 ?_
      refine p_callV (c0 := 300) (av := [.int _, .int _, .int _, .int _]) qV_RX7_176 rfl rfl rfl rfl (Nat.le_of_ble_eq_true rfl) (Nat.le_of_ble_eq_true rfl) dX7_layThere_182 (tX7_layMoved (by omega) (ok_b hF)) (fun r0 s10 hF => ?_)
      obtain ⟨r9, rfl, hF⟩ := hF
      refine p_goto (tgt := 208) dX7_layThere_185 (by decide) ?_
      exact p_lv [] rfl (b_X7_layThere_208 hd  _ hF)
  · have hF := ok_f hc hF
    refine p_iconst (v := 0) (by decide) dX7_layThere_153 ?_
    exact p_zret rfl rfl dX7_layThere_154 (ok_r (j := jI) hF)
theorem b_X7_layThere_96 {d : Nat} (hd : 3 ≤ d) {Q : Option Value → Hp → Prop}  (v1 : Int32) (v3 : Int32) (v4 : Int32) (vk0 : Int32) (vk1 : Int32) (sg : Hp) (hF : ok jI (B_X7_layThere_96  v1 v3 v4 vk0 vk1 sg) Q) : pw tM (d + 1) mX7_layThere 96 [(0, .ref 300), (1, .int v1), (3, .int v3), (4, .int v4)] [.int vk0, .int vk1, .ref 300] sg Q := by
  unfold B_X7_layThere_96 at hF
  refine p_iload_n rfl dX7_layThere_96 ?_
  refine p_bipush (v := 84) (by decide) dX7_layThere_97 ?_
  refine p_callV (c0 := 300) (av := [.int _, .int _, .int _, .int _]) qV_RX7_220 rfl rfl rfl rfl (Nat.le_of_ble_eq_true rfl) (Nat.le_of_ble_eq_true rfl) dX7_layThere_99 (tX7_laySum (by omega) (ok_b hF)) (fun r0 s2 hF => ?_)
  obtain ⟨r1, rfl, hF⟩ := hF
  refine p_aload_n rfl dX7_layThere_102 ?_
  refine p_iconst (v := 4) (by decide) dX7_layThere_103 ?_
  refine p_aload_n rfl dX7_layThere_104 ?_
  refine p_getR (c1 := 311) qF_RX7_25 rfl rfl dX7_layThere_105 ?_
  refine p_iload_n rfl dX7_layThere_108 ?_
  obtain ⟨hg, hF⟩ := ok_g hF
  refine p_iald rfl (inb_in hg) dX7_layThere_109 ?_
  refine p_bipush (v := 84) (by decide) dX7_layThere_110 ?_
  refine p_bipush (v := 44) (by decide) dX7_layThere_112 ?_
  refine p_iload rfl dX7_layThere_114 ?_
  refine p_iadd dX7_layThere_116 ?_
  refine p_callV (c0 := 300) (av := [.int _, .int _, .int _, .int _]) qV_RX7_157 rfl rfl rfl rfl (Nat.le_of_ble_eq_true rfl) (Nat.le_of_ble_eq_true rfl) dX7_layThere_117 (tX7_layBoth (by omega) (ok_b hF)) (fun r0 s4 hF => ?_)
  obtain ⟨r3, rfl, hF⟩ := hF
  refine p_aload_n rfl dX7_layThere_120 ?_
  refine p_getR (c1 := 318) qF_RX7_40 rfl rfl dX7_layThere_121 ?_
  refine p_iload rfl dX7_layThere_124 ?_
  refine p_aload_n rfl dX7_layThere_126 ?_
  refine p_bipush (v := 24) (by decide) dX7_layThere_127 ?_
  refine p_iload rfl dX7_layThere_129 ?_
  refine p_iadd dX7_layThere_131 ?_
  refine p_bipush (v := 44) (by decide) dX7_layThere_132 ?_
  refine p_iload rfl dX7_layThere_134 ?_
  refine p_iadd dX7_layThere_136 ?_
  refine p_bipush (v := 20) (by decide) dX7_layThere_137 ?_
  refine p_callV (c0 := 300) (av := [.int _, .int _, .int _]) qV_RX7_182 rfl rfl rfl rfl (Nat.le_of_ble_eq_true rfl) (Nat.le_of_ble_eq_true rfl) dX7_layThere_139 (tX7_waitOf (by omega) (ok_b hF)) (fun r0 s6 hF => ?_)
  obtain ⟨r5, rfl, hF⟩ := hF
  obtain ⟨hg, hF⟩ := ok_g hF
  refine p_iast rfl (inb_in hg) dX7_layThere_142 ?_
  exact p_lv [0, 4] rfl (b_X7_layThere_143 hd  _ _ hF)
theorem tX7_layThere {d : Nat} (hd : 4 ≤ d) {Q : Option Value → Hp → Prop} {a1 : Int32} {a2 : Int32} {sg : Hp} (hF : ok jI (fX7_layThere a1 a2 sg) Q) : pw tM d mX7_layThere 0 (lv_args 0 [.ref 300, .int a1, .int a2]) [] sg Q := by
  unfold fX7_layThere at hF
  obtain ⟨d, rfl⟩ : ∃ e, d = e + 1 := ⟨d - 1, by omega⟩
  have hd : 3 ≤ d := by omega
  show pw _ _ _ _ [(0, .ref 300), (1, .int a1), (2, .int a2)] [] _ _
  refine p_aload_n rfl dX7_layThere_0 ?_
  refine p_getR (c1 := 315) qF_RX7_34 rfl rfl dX7_layThere_1 ?_
  refine p_iconst (v := 4) (by decide) dX7_layThere_4 ?_
  refine p_iload_n rfl dX7_layThere_5 ?_
  refine p_imul dX7_layThere_6 ?_
  refine p_iload_n rfl dX7_layThere_7 ?_
  refine p_iadd dX7_layThere_8 ?_
  obtain ⟨hg, hF⟩ := ok_g hF
  refine p_iald rfl (inb_in hg) dX7_layThere_9 ?_
  refine p_istore_n (Nat.le_of_ble_eq_true rfl) rfl dX7_layThere_10 ?_
  refine p_iconst (v := 4) (by decide) dX7_layThere_11 ?_
  refine p_iload_n rfl dX7_layThere_12 ?_
  refine p_imul dX7_layThere_13 ?_
  refine p_iload_n rfl dX7_layThere_14 ?_
  refine p_iadd dX7_layThere_15 ?_
  refine p_istore (Nat.le_of_ble_eq_true rfl) rfl dX7_layThere_16 ?_
  refine p_aload_n rfl dX7_layThere_18 ?_
  refine p_getI qF_RX7_206 rfl rfl dX7_layThere_19 ?_
  refine p_iconst (v := 2) (by decide) dX7_layThere_22 ?_
  refine p_icmp_ne (tgt := 79) dX7_layThere_23 (by decide) (fun hc => ?_) (fun hc => ?_)
  · have hF := ok_f hc hF
    refine p_aload_n rfl dX7_layThere_79 ?_
    refine p_iload_n rfl dX7_layThere_80 ?_
    refine p_aload_n rfl dX7_layThere_81 ?_
    refine p_getI qF_RX7_206 rfl rfl dX7_layThere_82 ?_
    refine p_if_ne (tgt := 92) dX7_layThere_85 (by decide) (fun hc => ?_) (fun hc => ?_)
    · have hF := ok_f hc hF
      refine p_aload_n rfl dX7_layThere_92 ?_
      refine p_getI qF_RX7_190 rfl rfl dX7_layThere_93 ?_
      exact p_lv [0, 1, 3, 4] rfl (b_X7_layThere_96 hd  _ _ _ _ _ _ hF)
    · have hF := ok_t hc hF
      refine p_iload_n rfl dX7_layThere_88 ?_
      refine p_goto (tgt := 96) dX7_layThere_89 (by decide) ?_
      exact p_lv [0, 1, 3, 4] rfl (b_X7_layThere_96 hd  _ _ _ _ _ _ hF)
  · have hF := ok_t hc hF
    refine p_aload_n rfl dX7_layThere_26 ?_
    refine p_iload_n rfl dX7_layThere_27 ?_
    refine p_aload_n rfl dX7_layThere_28 ?_
    refine p_getI qF_RX7_190 rfl rfl dX7_layThere_29 ?_
    refine p_bipush (v := -9) (by decide) dX7_layThere_32 ?_
    refine p_bipush (v := 84) (by decide) dX7_layThere_34 ?_
    refine p_callV (c0 := 300) (av := [.int _, .int _, .int _, .int _]) qV_RX7_220 rfl rfl rfl rfl (Nat.le_of_ble_eq_true rfl) (Nat.le_of_ble_eq_true rfl) dX7_layThere_36 (tX7_laySum (by omega) (ok_b hF)) (fun r0 s12 hF => ?_)
    obtain ⟨r11, rfl, hF⟩ := hF
    refine p_aload_n rfl dX7_layThere_39 ?_
    refine p_iconst (v := 0) (by decide) dX7_layThere_40 ?_
    refine p_aload_n rfl dX7_layThere_41 ?_
    refine p_getR (c1 := 311) qF_RX7_25 rfl rfl dX7_layThere_42 ?_
    refine p_iload_n rfl dX7_layThere_45 ?_
    obtain ⟨hg, hF⟩ := ok_g hF
    refine p_iald rfl (inb_in hg) dX7_layThere_46 ?_
    refine p_iconst (v := 0) (by decide) dX7_layThere_47 ?_
    refine p_bipush (v := 44) (by decide) dX7_layThere_48 ?_
    refine p_iload rfl dX7_layThere_50 ?_
    refine p_iadd dX7_layThere_52 ?_
    refine p_callV (c0 := 300) (av := [.int _, .int _, .int _, .int _]) qV_RX7_176 rfl rfl rfl rfl (Nat.le_of_ble_eq_true rfl) (Nat.le_of_ble_eq_true rfl) dX7_layThere_53 (tX7_layMoved (by omega) (ok_b hF)) (fun r0 s14 hF => ?_)
    obtain ⟨r13, rfl, hF⟩ := hF
    refine p_aload_n rfl dX7_layThere_56 ?_
    refine p_getR (c1 := 318) qF_RX7_40 rfl rfl dX7_layThere_57 ?_
    refine p_iload rfl dX7_layThere_60 ?_
    refine p_aload_n rfl dX7_layThere_62 ?_
    refine p_bipush (v := 84) (by decide) dX7_layThere_63 ?_
    refine p_bipush (v := 44) (by decide) dX7_layThere_65 ?_
    refine p_iload rfl dX7_layThere_67 ?_
    refine p_iadd dX7_layThere_69 ?_
    refine p_bipush (v := 20) (by decide) dX7_layThere_70 ?_
    refine p_callV (c0 := 300) (av := [.int _, .int _, .int _]) qV_RX7_182 rfl rfl rfl rfl (Nat.le_of_ble_eq_true rfl) (Nat.le_of_ble_eq_true rfl) dX7_layThere_72 (tX7_waitOf (by omega) (ok_b hF)) (fun r0 s16 hF => ?_)
    obtain ⟨r15, rfl, hF⟩ := hF
    obtain ⟨hg, hF⟩ := ok_g hF
    refine p_iast rfl (inb_in hg) dX7_layThere_75 ?_
    refine p_goto (tgt := 143) dX7_layThere_76 (by decide) ?_
    exact p_lv [0, 4] rfl (b_X7_layThere_143 hd  _ _ hF)
theorem b_X7_layComing_58 {d : Nat} (hd : 1 ≤ d) {Q : Option Value → Hp → Prop} {k2 : Int32 → Int32 → Hp → Option (Unit × Hp)} (hk2 : ∀ (z1 : Int32) (z2 : Int32) (s2 : Hp), ok jV (k2 z1 z2 s2) Q → pw tM (d + 1) mX7_layComing 2 [(0, .ref 300), (1, .int z1), (2, .int z2)] [] s2 Q) (v1 : Int32) (v2 : Int32) (sg : Hp) (hF : ok jV (B_X7_layComing_58 k2 v1 v2 sg) Q) : pw tM (d + 1) mX7_layComing 58 [(0, .ref 300), (1, .int v1), (2, .int v2)] [] sg Q := by
  unfold B_X7_layComing_58 at hF
  refine p_iinc (w := 1) (by decide) rfl (Nat.le_of_ble_eq_true rfl) rfl dX7_layComing_58 ?_
  refine p_goto (tgt := 2) dX7_layComing_61 (by decide) ?_
  exact p_lv [0, 1, 2] rfl (hk2 _ _ _ hF)
theorem b_X7_layComing_46 {d : Nat} (hd : 1 ≤ d) {Q : Option Value → Hp → Prop} {k2 : Int32 → Int32 → Hp → Option (Unit × Hp)} (hk2 : ∀ (z1 : Int32) (z2 : Int32) (s2 : Hp), ok jV (k2 z1 z2 s2) Q → pw tM (d + 1) mX7_layComing 2 [(0, .ref 300), (1, .int z1), (2, .int z2)] [] s2 Q) (v1 : Int32) (v2 : Int32) (v3 : Int32) (vk0 : Int32) (vk1 : Int32) (sg : Hp) (hF : ok jV (B_X7_layComing_46 k2 v1 v2 v3 vk0 vk1 sg) Q) : pw tM (d + 1) mX7_layComing 46 [(0, .ref 300), (1, .int v1), (2, .int v2), (3, .int v3)] [.int vk0, .int vk1, .ref 300] sg Q := by
  unfold B_X7_layComing_46 at hF
  refine p_iconst (v := 0) (by decide) dX7_layComing_46 ?_
  refine p_bipush (v := 24) (by decide) dX7_layComing_47 ?_
  refine p_iconst (v := 4) (by decide) dX7_layComing_49 ?_
  refine p_iload_n rfl dX7_layComing_50 ?_
  refine p_imul dX7_layComing_51 ?_
  refine p_iadd dX7_layComing_52 ?_
  refine p_iload_n rfl dX7_layComing_53 ?_
  refine p_iadd dX7_layComing_54 ?_
  refine p_callV (c0 := 300) (av := [.int _, .int _, .int _, .int _]) qV_RX7_176 rfl rfl rfl rfl (Nat.le_of_ble_eq_true rfl) (Nat.le_of_ble_eq_true rfl) dX7_layComing_55 (tX7_layMoved (by omega) (ok_b hF)) (fun r0 s4 hF => ?_)
  obtain ⟨r3, rfl, hF⟩ := hF
  exact p_lv [0, 1, 2] rfl (b_X7_layComing_58 hd hk2 _ _ _ hF)
theorem l_X7_layComing_2 {d : Nat} (hd : 1 ≤ d) {Q : Option Value → Hp → Prop} {k64 : Hp → Option (Unit × Hp)} (hk64 : ∀ (s2 : Hp), ok jV (k64 s2) Q → pw tM (d + 1) mX7_layComing 64 [] [] s2 Q) : ∀ (n : Nat) (v1 : Int32) (v2 : Int32) (sg : Hp), ok jV (L_X7_layComing_2 k64 n v1 v2 sg) Q → pw tM (d + 1) mX7_layComing 2 [(0, .ref 300), (1, .int v1), (2, .int v2)] [] sg Q := by
  intro n
  induction n with
  | zero =>
    intro v1 v2 sg hF
    obtain ⟨_, _, h9, _⟩ := hF
    cases h9
  | succ n ih =>
    intro v1 v2 sg hF
    refine p_iload_n rfl dX7_layComing_2 ?_
    refine p_aload_n rfl dX7_layComing_3 ?_
    refine p_getI qF_RX7_190 rfl rfl dX7_layComing_4 ?_
    refine p_icmp_ge (tgt := 64) dX7_layComing_7 (by decide) (fun hc => ?_) (fun hc => ?_)
    · have hF := ok_t hc hF
      exact p_lv [] rfl (hk64 _ hF)
    · have hF := ok_f hc hF
      refine p_aload_n rfl dX7_layComing_10 ?_
      refine p_iload_n rfl dX7_layComing_11 ?_
      refine p_iload_n rfl dX7_layComing_12 ?_
      refine p_callV (c0 := 300) (av := [.int _, .int _]) qV_RX7_217 rfl rfl rfl rfl (Nat.le_of_ble_eq_true rfl) (Nat.le_of_ble_eq_true rfl) dX7_layComing_13 (tX7_placeOf (ok_b hF)) (fun r0 s2 hF => ?_)
      obtain ⟨r1, rfl, hF⟩ := hF
      refine p_istore_n (Nat.le_of_ble_eq_true rfl) rfl dX7_layComing_16 ?_
      refine p_iload_n rfl dX7_layComing_17 ?_
      refine p_if_lt (tgt := 58) dX7_layComing_18 (by decide) (fun hc => ?_) (fun hc => ?_)
      · have hF := ok_t hc hF
        exact p_lv [0, 1, 2] rfl (b_X7_layComing_58 hd ih _ _ _ hF)
      · have hF := ok_f hc hF
        refine p_aload_n rfl dX7_layComing_21 ?_
        refine p_iconst (v := 0) (by decide) dX7_layComing_22 ?_
        refine p_iload_n rfl dX7_layComing_23 ?_
        refine p_if_ne (tgt := 36) dX7_layComing_24 (by decide) (fun hc => ?_) (fun hc => ?_)
        · have hF := ok_f hc hF
          refine p_bipush (v := 64) (by decide) dX7_layComing_36 ?_
          refine p_iconst (v := 4) (by decide) dX7_layComing_38 ?_
          refine p_iload_n rfl dX7_layComing_39 ?_
          refine p_imul dX7_layComing_40 ?_
          refine p_iadd dX7_layComing_41 ?_
          refine p_iload_n rfl dX7_layComing_42 ?_
          refine p_iadd dX7_layComing_43 ?_
          refine p_iconst (v := 1) (by decide) dX7_layComing_44 ?_
          refine p_isub dX7_layComing_45 ?_
          exact p_lv [0, 1, 2, 3] rfl (b_X7_layComing_46 hd ih _ _ _ _ _ _ hF)
        · have hF := ok_t hc hF
          refine p_aload_n rfl dX7_layComing_27 ?_
          refine p_getR (c1 := 313) qF_RX7_28 rfl rfl dX7_layComing_28 ?_
          refine p_iload_n rfl dX7_layComing_31 ?_
          obtain ⟨hg, hF⟩ := ok_g hF
          refine p_iald rfl (inb_in hg) dX7_layComing_32 ?_
          refine p_goto (tgt := 46) dX7_layComing_33 (by decide) ?_
          exact p_lv [0, 1, 2, 3] rfl (b_X7_layComing_46 hd ih _ _ _ _ _ _ hF)
theorem tX7_layComing {d : Nat} (hd : 2 ≤ d) {Q : Option Value → Hp → Prop} {a1 : Int32} {sg : Hp} (hF : ok jV (fX7_layComing a1 sg) Q) : pw tM d mX7_layComing 0 (lv_args 0 [.ref 300, .int a1]) [] sg Q := by
  unfold fX7_layComing at hF
  obtain ⟨d, rfl⟩ : ∃ e, d = e + 1 := ⟨d - 1, by omega⟩
  have hd : 1 ≤ d := by omega
  show pw _ _ _ _ [(0, .ref 300), (1, .int a1)] [] _ _
  refine p_iconst (v := 0) (by decide) dX7_layComing_0 ?_
  refine p_istore_n (Nat.le_of_ble_eq_true rfl) rfl dX7_layComing_1 ?_
  refine p_lv [0, 1, 2] rfl (l_X7_layComing_2 hd ?_ 200 _ _ _ hF)
  intro s6 hF
  exact p_vret rfl dX7_layComing_64 (ok_r (j := jV) hF)
theorem b_X7_layAll_108 {d : Nat} (hd : 4 ≤ d) {Q : Option Value → Hp → Prop} {k30 : Int32 → Int32 → Int32 → Hp → Option (Int32 × Hp)} (hk30 : ∀ (z1 : Int32) (z2 : Int32) (z3 : Int32) (s2 : Hp), ok jI (k30 z1 z2 z3 s2) Q → pw tM (d + 1) mX7_layAll 30 [(0, .ref 300), (1, .int z1), (2, .int z2), (3, .int z3)] [] s2 Q) (v1 : Int32) (v2 : Int32) (v3 : Int32) (sg : Hp) (hF : ok jI (B_X7_layAll_108 k30 v1 v2 v3 sg) Q) : pw tM (d + 1) mX7_layAll 108 [(0, .ref 300), (1, .int v1), (2, .int v2), (3, .int v3)] [] sg Q := by
  unfold B_X7_layAll_108 at hF
  refine p_iinc (w := 1) (by decide) rfl (Nat.le_of_ble_eq_true rfl) rfl dX7_layAll_108 ?_
  refine p_goto (tgt := 30) dX7_layAll_111 (by decide) ?_
  exact p_lv [0, 1, 2, 3] rfl (hk30 _ _ _ _ hF)
theorem b_X7_layAll_101 {d : Nat} (hd : 4 ≤ d) {Q : Option Value → Hp → Prop} {k58 : Int32 → Int32 → Int32 → Int32 → Hp → Option (Int32 × Hp)} (hk58 : ∀ (z1 : Int32) (z2 : Int32) (z3 : Int32) (z4 : Int32) (s2 : Hp), ok jI (k58 z1 z2 z3 z4 s2) Q → pw tM (d + 1) mX7_layAll 58 [(0, .ref 300), (1, .int z1), (2, .int z2), (3, .int z3), (4, .int z4)] [] s2 Q) (v2 : Int32) (v3 : Int32) (v4 : Int32) (vk0 : Int32) (sg : Hp) (hF : ok jI (B_X7_layAll_101 k58 v2 v3 v4 vk0 sg) Q) : pw tM (d + 1) mX7_layAll 101 [(0, .ref 300), (2, .int v2), (3, .int v3), (4, .int v4)] [.int vk0] sg Q := by
  unfold B_X7_layAll_101 at hF
  refine p_istore_n (Nat.le_of_ble_eq_true rfl) rfl dX7_layAll_101 ?_
  refine p_iinc (w := 1) (by decide) rfl (Nat.le_of_ble_eq_true rfl) rfl dX7_layAll_102 ?_
  refine p_goto (tgt := 58) dX7_layAll_105 (by decide) ?_
  exact p_lv [0, 1, 2, 3, 4] rfl (hk58 _ _ _ _ _ hF)
theorem b_X7_layAll_100 {d : Nat} (hd : 4 ≤ d) {Q : Option Value → Hp → Prop} {k58 : Int32 → Int32 → Int32 → Int32 → Hp → Option (Int32 × Hp)} (hk58 : ∀ (z1 : Int32) (z2 : Int32) (z3 : Int32) (z4 : Int32) (s2 : Hp), ok jI (k58 z1 z2 z3 z4 s2) Q → pw tM (d + 1) mX7_layAll 58 [(0, .ref 300), (1, .int z1), (2, .int z2), (3, .int z3), (4, .int z4)] [] s2 Q) (v2 : Int32) (v3 : Int32) (v4 : Int32) (sg : Hp) (hF : ok jI (B_X7_layAll_100 k58 v2 v3 v4 sg) Q) : pw tM (d + 1) mX7_layAll 100 [(0, .ref 300), (2, .int v2), (3, .int v3), (4, .int v4)] [] sg Q := by
  unfold B_X7_layAll_100 at hF
  refine p_iconst (v := 0) (by decide) dX7_layAll_100 ?_
  exact p_lv [0, 2, 3, 4] rfl (b_X7_layAll_101 hd hk58 _ _ _ _ _ hF)
theorem b_X7_layAll_96 {d : Nat} (hd : 4 ≤ d) {Q : Option Value → Hp → Prop} {k58 : Int32 → Int32 → Int32 → Int32 → Hp → Option (Int32 × Hp)} (hk58 : ∀ (z1 : Int32) (z2 : Int32) (z3 : Int32) (z4 : Int32) (s2 : Hp), ok jI (k58 z1 z2 z3 z4 s2) Q → pw tM (d + 1) mX7_layAll 58 [(0, .ref 300), (1, .int z1), (2, .int z2), (3, .int z3), (4, .int z4)] [] s2 Q) (v2 : Int32) (v3 : Int32) (v4 : Int32) (sg : Hp) (hF : ok jI (B_X7_layAll_96 k58 v2 v3 v4 sg) Q) : pw tM (d + 1) mX7_layAll 96 [(0, .ref 300), (2, .int v2), (3, .int v3), (4, .int v4)] [] sg Q := by
  unfold B_X7_layAll_96 at hF
  refine p_iconst (v := 1) (by decide) dX7_layAll_96 ?_
  refine p_goto (tgt := 101) dX7_layAll_97 (by decide) ?_
  exact p_lv [0, 2, 3, 4] rfl (b_X7_layAll_101 hd hk58 _ _ _ _ _ hF)
theorem l_X7_layAll_58 {d : Nat} (hd : 4 ≤ d) {Q : Option Value → Hp → Prop} {k108 : Int32 → Int32 → Int32 → Hp → Option (Int32 × Hp)} (hk108 : ∀ (z1 : Int32) (z2 : Int32) (z3 : Int32) (s2 : Hp), ok jI (k108 z1 z2 z3 s2) Q → pw tM (d + 1) mX7_layAll 108 [(0, .ref 300), (1, .int z1), (2, .int z2), (3, .int z3)] [] s2 Q) : ∀ (n : Nat) (v1 : Int32) (v2 : Int32) (v3 : Int32) (v4 : Int32) (sg : Hp), ok jI (L_X7_layAll_58 k108 n v1 v2 v3 v4 sg) Q → pw tM (d + 1) mX7_layAll 58 [(0, .ref 300), (1, .int v1), (2, .int v2), (3, .int v3), (4, .int v4)] [] sg Q := by
  intro n
  induction n with
  | zero =>
    intro v1 v2 v3 v4 sg hF
    obtain ⟨_, _, h9, _⟩ := hF
    cases h9
  | succ n ih =>
    intro v1 v2 v3 v4 sg hF
    refine p_iload rfl dX7_layAll_58 ?_
    refine p_aload_n rfl dX7_layAll_60 ?_
    refine p_getI qF_RX7_190 rfl rfl dX7_layAll_61 ?_
    refine p_icmp_ge (tgt := 108) dX7_layAll_64 (by decide) (fun hc => ?_) (fun hc => ?_)
    · have hF := ok_t hc hF
      exact p_lv [0, 1, 2, 3] rfl (hk108 _ _ _ _ hF)
    · have hF := ok_f hc hF
      refine p_aload_n rfl dX7_layAll_67 ?_
      refine p_iload rfl dX7_layAll_68 ?_
      refine p_iload_n rfl dX7_layAll_70 ?_
      refine p_callV (c0 := 300) (av := [.int _, .int _]) qV_RX7_217 rfl rfl rfl rfl (Nat.le_of_ble_eq_true rfl) (Nat.le_of_ble_eq_true rfl) dX7_layAll_71 (tX7_placeOf (ok_b hF)) (fun r0 s6 hF => ?_)
      obtain ⟨r5, rfl, hF⟩ := hF
      refine p_istore (Nat.le_of_ble_eq_true rfl) rfl dX7_layAll_74 ?_
      refine p_iload_n rfl dX7_layAll_76 ?_
      refine p_if_eq (tgt := 100) dX7_layAll_77 (by decide) (fun hc => ?_) (fun hc => ?_)
      · have hF := ok_t hc hF
        exact p_lv [0, 2, 3, 4] rfl (b_X7_layAll_100 hd ih _ _ _ _ hF)
      · have hF := ok_f hc hF
        refine p_iload rfl dX7_layAll_80 ?_
        refine p_if_lt (tgt := 96) dX7_layAll_82 (by decide) (fun hc => ?_) (fun hc => ?_)
        · have hF := ok_t hc hF
          exact p_lv [0, 2, 3, 4] rfl (b_X7_layAll_96 hd ih _ _ _ _ hF)
        · have hF := ok_f hc hF
          refine p_aload_n rfl dX7_layAll_85 ?_
          refine p_iload rfl dX7_layAll_86 ?_
          refine p_iload rfl dX7_layAll_88 ?_
          refine p_callV (c0 := 300) (av := [.int _, .int _]) qV_RX7_229 rfl rfl rfl rfl (Nat.le_of_ble_eq_true rfl) (Nat.le_of_ble_eq_true rfl) dX7_layAll_90 (tX7_layThere (by omega) (ok_b hF)) (fun r0 s8 hF => ?_)
          obtain ⟨r7, rfl, hF⟩ := hF
          refine p_if_eq (tgt := 100) dX7_layAll_93 (by decide) (fun hc => ?_) (fun hc => ?_)
          · have hF := ok_t hc hF
            exact p_lv [0, 2, 3, 4] rfl (b_X7_layAll_100 hd ih _ _ _ _ hF)
          · have hF := ok_f hc hF
            exact p_lv [0, 2, 3, 4] rfl (b_X7_layAll_96 hd ih _ _ _ _ hF)
theorem l_X7_layAll_30 {d : Nat} (hd : 4 ≤ d) {Q : Option Value → Hp → Prop} {k114 : Int32 → Int32 → Hp → Option (Int32 × Hp)} (hk114 : ∀ (z1 : Int32) (z2 : Int32) (s2 : Hp), ok jI (k114 z1 z2 s2) Q → pw tM (d + 1) mX7_layAll 114 [(0, .ref 300), (1, .int z1), (2, .int z2)] [] s2 Q) : ∀ (n : Nat) (v1 : Int32) (v2 : Int32) (v3 : Int32) (sg : Hp), ok jI (L_X7_layAll_30 k114 n v1 v2 v3 sg) Q → pw tM (d + 1) mX7_layAll 30 [(0, .ref 300), (1, .int v1), (2, .int v2), (3, .int v3)] [] sg Q := by
  intro n
  induction n with
  | zero =>
    intro v1 v2 v3 sg hF
    obtain ⟨_, _, h9, _⟩ := hF
    cases h9
  | succ n ih =>
    intro v1 v2 v3 sg hF
    refine p_iload_n rfl dX7_layAll_30 ?_
    refine p_bipush (v := 6) (by decide) dX7_layAll_31 ?_
    refine p_icmp_ge (tgt := 114) dX7_layAll_33 (by decide) (fun hc => ?_) (fun hc => ?_)
    · have hF := ok_t hc hF
      exact p_lv [0, 1, 2] rfl (hk114 _ _ _ hF)
    · have hF := ok_f hc hF
      refine p_iload_n rfl dX7_layAll_36 ?_
      refine p_if_eq (tgt := 108) dX7_layAll_37 (by decide) (fun hc => ?_) (fun hc => ?_)
      · have hF := ok_t hc hF
        exact p_lv [0, 1, 2, 3] rfl (b_X7_layAll_108 hd ih _ _ _ _ hF)
      · have hF := ok_f hc hF
        refine p_aload_n rfl dX7_layAll_40 ?_
        refine p_getR (c1 := 317) qF_RX7_37 rfl rfl dX7_layAll_41 ?_
        refine p_iload_n rfl dX7_layAll_44 ?_
        obtain ⟨hg, hF⟩ := ok_g hF
        refine p_iald rfl (inb_in hg) dX7_layAll_45 ?_
        refine p_iload_n rfl dX7_layAll_46 ?_
        refine p_icmp_ne (tgt := 108) dX7_layAll_47 (by decide) (fun hc => ?_) (fun hc => ?_)
        · have hF := ok_f hc hF
          exact p_lv [0, 1, 2, 3] rfl (b_X7_layAll_108 hd ih _ _ _ _ hF)
        · have hF := ok_t hc hF
          refine p_aload_n rfl dX7_layAll_50 ?_
          refine p_iload_n rfl dX7_layAll_51 ?_
          refine p_callV (c0 := 300) (av := [.int _]) qV_RX7_226 rfl rfl rfl rfl (Nat.le_of_ble_eq_true rfl) (Nat.le_of_ble_eq_true rfl) dX7_layAll_52 (tX7_layComing (by omega) (ok_b hF)) (fun r0 s4 hF => ?_)
          obtain ⟨r3, rfl, hF⟩ := hF
          refine p_iconst (v := 0) (by decide) dX7_layAll_55 ?_
          refine p_istore (Nat.le_of_ble_eq_true rfl) rfl dX7_layAll_56 ?_
          refine p_lv [0, 1, 2, 3, 4] rfl (l_X7_layAll_58 hd ?_ 200 _ _ _ _ _ hF)
          intro w9_1 w9_2 w9_3 s10 hF
          exact p_lv [0, 1, 2, 3] rfl (b_X7_layAll_108 hd ih _ _ _ _ hF)
theorem l_X7_layAll_22 {d : Nat} (hd : 4 ≤ d) {Q : Option Value → Hp → Prop} {k120 : Int32 → Hp → Option (Int32 × Hp)} (hk120 : ∀ (z1 : Int32) (s2 : Hp), ok jI (k120 z1 s2) Q → pw tM (d + 1) mX7_layAll 120 [(1, .int z1)] [] s2 Q) : ∀ (n : Nat) (v1 : Int32) (v2 : Int32) (sg : Hp), ok jI (L_X7_layAll_22 k120 n v1 v2 sg) Q → pw tM (d + 1) mX7_layAll 22 [(0, .ref 300), (1, .int v1), (2, .int v2)] [] sg Q := by
  intro n
  induction n with
  | zero =>
    intro v1 v2 sg hF
    obtain ⟨_, _, h9, _⟩ := hF
    cases h9
  | succ n ih =>
    intro v1 v2 sg hF
    refine p_iload_n rfl dX7_layAll_22 ?_
    refine p_bipush (v := 6) (by decide) dX7_layAll_23 ?_
    refine p_icmp_ge (tgt := 120) dX7_layAll_25 (by decide) (fun hc => ?_) (fun hc => ?_)
    · have hF := ok_t hc hF
      exact p_lv [1] rfl (hk120 _ _ hF)
    · have hF := ok_f hc hF
      refine p_iconst (v := 0) (by decide) dX7_layAll_28 ?_
      refine p_istore_n (Nat.le_of_ble_eq_true rfl) rfl dX7_layAll_29 ?_
      refine p_lv [0, 1, 2, 3] rfl (l_X7_layAll_30 hd ?_ 200 _ _ _ _ hF)
      intro w11_1 w11_2 s12 hF
      refine p_iinc (w := 1) (by decide) rfl (Nat.le_of_ble_eq_true rfl) rfl dX7_layAll_114 ?_
      refine p_goto (tgt := 22) dX7_layAll_117 (by decide) ?_
      exact p_lv [0, 1, 2] rfl (ih _ _ _ hF)
theorem b_X7_layAll_19 {d : Nat} (hd : 4 ≤ d) {Q : Option Value → Hp → Prop}  (vk0 : Int32) (sg : Hp) (hF : ok jI (B_X7_layAll_19  vk0 sg) Q) : pw tM (d + 1) mX7_layAll 19 [(0, .ref 300)] [.int vk0] sg Q := by
  unfold B_X7_layAll_19 at hF
  refine p_istore_n (Nat.le_of_ble_eq_true rfl) rfl dX7_layAll_19 ?_
  refine p_iconst (v := 0) (by decide) dX7_layAll_20 ?_
  refine p_istore_n (Nat.le_of_ble_eq_true rfl) rfl dX7_layAll_21 ?_
  refine p_lv [0, 1, 2] rfl (l_X7_layAll_22 hd ?_ 200 _ _ _ hF)
  intro w13_1 s14 hF
  refine p_iload_n rfl dX7_layAll_120 ?_
  obtain ⟨hg, hF⟩ := ok_g hF
  exact p_zret rfl (b01_n hg).1 dX7_layAll_121 (ok_r (j := jI) hF)
theorem b_X7_layAll_18 {d : Nat} (hd : 4 ≤ d) {Q : Option Value → Hp → Prop}   (sg : Hp) (hF : ok jI (B_X7_layAll_18   sg) Q) : pw tM (d + 1) mX7_layAll 18 [(0, .ref 300)] [] sg Q := by
  unfold B_X7_layAll_18 at hF
  refine p_iconst (v := 0) (by decide) dX7_layAll_18 ?_
  exact p_lv [0] rfl (b_X7_layAll_19 hd  _ _ hF)
theorem tX7_layAll {d : Nat} (hd : 5 ≤ d) {Q : Option Value → Hp → Prop}  {sg : Hp} (hF : ok jI (fX7_layAll  sg) Q) : pw tM d mX7_layAll 0 (lv_args 0 [.ref 300]) [] sg Q := by
  unfold fX7_layAll at hF
  obtain ⟨d, rfl⟩ : ∃ e, d = e + 1 := ⟨d - 1, by omega⟩
  have hd : 4 ≤ d := by omega
  show pw _ _ _ _ [(0, .ref 300)] [] _ _
  refine p_aload_n rfl dX7_layAll_0 ?_
  refine p_callV (c0 := 300) (av := []) qV_RX7_209 rfl rfl rfl rfl (Nat.le_of_ble_eq_true rfl) (Nat.le_of_ble_eq_true rfl) dX7_layAll_1 (tX7_layRounds (by omega) (ok_b hF)) (fun r0 s2 hF => ?_)
  obtain ⟨r1, rfl, hF⟩ := hF
  refine p_if_eq (tgt := 18) dX7_layAll_4 (by decide) (fun hc => ?_) (fun hc => ?_)
  · have hF := ok_t hc hF
    exact p_lv [0] rfl (b_X7_layAll_18 hd  _ hF)
  · have hF := ok_f hc hF
    refine p_aload_n rfl dX7_layAll_7 ?_
    refine p_callV (c0 := 300) (av := []) qV_RX7_223 rfl rfl rfl rfl (Nat.le_of_ble_eq_true rfl) (Nat.le_of_ble_eq_true rfl) dX7_layAll_8 (tX7_areServed (ok_b hF)) (fun r0 s16 hF => ?_)
    obtain ⟨r15, rfl, hF⟩ := hF
    refine p_if_eq (tgt := 18) dX7_layAll_11 (by decide) (fun hc => ?_) (fun hc => ?_)
    · have hF := ok_t hc hF
      exact p_lv [0] rfl (b_X7_layAll_18 hd  _ hF)
    · have hF := ok_f hc hF
      refine p_iconst (v := 1) (by decide) dX7_layAll_14 ?_
      refine p_goto (tgt := 19) dX7_layAll_15 (by decide) ?_
      exact p_lv [0] rfl (b_X7_layAll_19 hd  _ _ hF)
theorem b_X7_noStep_31 {d : Nat} (hd : 1 ≤ d) {Q : Option Value → Hp → Prop}  (vk0 : Int32) (sg : Hp) (hF : ok jI (B_X7_noStep_31  vk0 sg) Q) : pw tM (d + 1) mX7_noStep 31 [] [.int vk0] sg Q := by
  unfold B_X7_noStep_31 at hF
  obtain ⟨hg, hF⟩ := ok_g hF
  exact p_zret rfl (b01_n hg).1 dX7_noStep_31 (ok_r (j := jI) hF)
theorem b_X7_noStep_26 {d : Nat} (hd : 1 ≤ d) {Q : Option Value → Hp → Prop}   (sg : Hp) (hF : ok jI (B_X7_noStep_26   sg) Q) : pw tM (d + 1) mX7_noStep 26 [] [] sg Q := by
  unfold B_X7_noStep_26 at hF
  refine p_iconst (v := 1) (by decide) dX7_noStep_26 ?_
  refine p_goto (tgt := 31) dX7_noStep_27 (by decide) ?_
  exact p_lv [] rfl (b_X7_noStep_31 hd  _ _ hF)
theorem tX7_noStep {d : Nat} (hd : 2 ≤ d) {Q : Option Value → Hp → Prop} {a1 : Int32} {a2 : Int32} {sg : Hp} (hF : ok jI (fX7_noStep a1 a2 sg) Q) : pw tM d mX7_noStep 0 (lv_args 0 [.ref 300, .int a1, .int a2]) [] sg Q := by
  unfold fX7_noStep at hF
  obtain ⟨d, rfl⟩ : ∃ e, d = e + 1 := ⟨d - 1, by omega⟩
  have hd : 1 ≤ d := by omega
  show pw _ _ _ _ [(0, .ref 300), (1, .int a1), (2, .int a2)] [] _ _
  refine p_aload_n rfl dX7_noStep_0 ?_
  refine p_iload_n rfl dX7_noStep_1 ?_
  refine p_callV (c0 := 300) (av := [.int _]) qV_RX7_199 rfl rfl rfl rfl (Nat.le_of_ble_eq_true rfl) (Nat.le_of_ble_eq_true rfl) dX7_noStep_2 (tX7_noFlow (by omega) (ok_b hF)) (fun r0 s2 hF => ?_)
  obtain ⟨r1, rfl, hF⟩ := hF
  refine p_if_ne (tgt := 26) dX7_noStep_5 (by decide) (fun hc => ?_) (fun hc => ?_)
  · have hF := ok_f hc hF
    exact p_lv [] rfl (b_X7_noStep_26 hd  _ hF)
  · have hF := ok_t hc hF
    refine p_iload_n rfl dX7_noStep_8 ?_
    refine p_i2l dX7_noStep_9 ?_
    refine p_lconst (v := 0) (by decide) dX7_noStep_10 ?_
    refine p_aload_n rfl dX7_noStep_11 ?_
    refine p_getR (c1 := 314) qF_RX7_31 rfl rfl dX7_noStep_12 ?_
    refine p_iload_n rfl dX7_noStep_15 ?_
    obtain ⟨hg, hF⟩ := ok_g hF
    refine p_iald rfl (inb_in hg) dX7_noStep_16 ?_
    refine p_i2l dX7_noStep_17 ?_
    refine p_lconst (v := 1) (by decide) dX7_noStep_18 ?_
    refine p_lsub dX7_noStep_19 ?_
    refine p_callS (av := [.long _, .long _, .long _]) qS_RX7_67 rfl (Nat.le_of_ble_eq_true rfl) (Nat.le_of_ble_eq_true rfl) dX7_noStep_20 (tX7_in (ok_b hF)) (fun r0 s4 hF => ?_)
    obtain ⟨r3, rfl, hF⟩ := hF
    refine p_if_ne (tgt := 30) dX7_noStep_23 (by decide) (fun hc => ?_) (fun hc => ?_)
    · have hF := ok_f hc hF
      refine p_iconst (v := 0) (by decide) dX7_noStep_30 ?_
      exact p_lv [] rfl (b_X7_noStep_31 hd  _ _ hF)
    · have hF := ok_t hc hF
      exact p_lv [] rfl (b_X7_noStep_26 hd  _ hF)
theorem b_X7_latest_33 {d : Nat} (hd : 5 ≤ d) {Q : Option Value → Hp → Prop}  (vk0 : Int32) (sg : Hp) (hF : ok jI (B_X7_latest_33  vk0 sg) Q) : pw tM (d + 1) mX7_latest 33 [] [.int vk0] sg Q := by
  unfold B_X7_latest_33 at hF
  exact p_iret rfl dX7_latest_33 (ok_r (j := jI) hF)
theorem tX7_latest {d : Nat} (hd : 6 ≤ d) {Q : Option Value → Hp → Prop} {a1 : Int32} {a2 : Int32} {sg : Hp} (hF : ok jI (fX7_latest a1 a2 sg) Q) : pw tM d mX7_latest 0 (lv_args 0 [.ref 300, .int a1, .int a2]) [] sg Q := by
  unfold fX7_latest at hF
  obtain ⟨d, rfl⟩ : ∃ e, d = e + 1 := ⟨d - 1, by omega⟩
  have hd : 5 ≤ d := by omega
  show pw _ _ _ _ [(0, .ref 300), (1, .int a1), (2, .int a2)] [] _ _
  refine p_aload_n rfl dX7_latest_0 ?_
  refine p_iload_n rfl dX7_latest_1 ?_
  refine p_iload_n rfl dX7_latest_2 ?_
  refine p_callV (c0 := 300) (av := [.int _, .int _]) qV_RX7_232 rfl rfl rfl rfl (Nat.le_of_ble_eq_true rfl) (Nat.le_of_ble_eq_true rfl) dX7_latest_3 (tX7_noStep (by omega) (ok_b hF)) (fun r0 s2 hF => ?_)
  obtain ⟨r1, rfl, hF⟩ := hF
  refine p_if_eq (tgt := 11) dX7_latest_6 (by decide) (fun hc => ?_) (fun hc => ?_)
  · have hF := ok_t hc hF
    refine p_aload_n rfl dX7_latest_11 ?_
    refine p_callV (c0 := 300) (av := []) qV_RX7_235 rfl rfl rfl rfl (Nat.le_of_ble_eq_true rfl) (Nat.le_of_ble_eq_true rfl) dX7_latest_12 (tX7_layAll (by omega) (ok_b hF)) (fun r0 s4 hF => ?_)
    obtain ⟨r3, rfl, hF⟩ := hF
    refine p_if_eq (tgt := 31) dX7_latest_15 (by decide) (fun hc => ?_) (fun hc => ?_)
    · have hF := ok_t hc hF
      refine p_bipush (v := -3) (by decide) dX7_latest_31 ?_
      exact p_lv [] rfl (b_X7_latest_33 hd  _ _ hF)
    · have hF := ok_f hc hF
      refine p_aload_n rfl dX7_latest_18 ?_
      refine p_getR (c1 := 318) qF_RX7_40 rfl rfl dX7_latest_19 ?_
      refine p_iconst (v := 4) (by decide) dX7_latest_22 ?_
      refine p_iload_n rfl dX7_latest_23 ?_
      refine p_imul dX7_latest_24 ?_
      refine p_iload_n rfl dX7_latest_25 ?_
      refine p_iadd dX7_latest_26 ?_
      obtain ⟨hg, hF⟩ := ok_g hF
      refine p_iald rfl (inb_in hg) dX7_latest_27 ?_
      refine p_goto (tgt := 33) dX7_latest_28 (by decide) ?_
      exact p_lv [] rfl (b_X7_latest_33 hd  _ _ hF)
  · have hF := ok_f hc hF
    refine p_iconst (v := -1) (by decide) dX7_latest_9 ?_
    exact p_iret rfl dX7_latest_10 (ok_r (j := jI) hF)
theorem b_X7_there_36 {d : Nat} (hd : 5 ≤ d) {Q : Option Value → Hp → Prop}   (sg : Hp) (hF : ok jI (B_X7_there_36   sg) Q) : pw tM (d + 1) mX7_there 36 [] [] sg Q := by
  unfold B_X7_there_36 at hF
  refine p_bipush (v := -2) (by decide) dX7_there_36 ?_
  exact p_iret rfl dX7_there_38 (ok_r (j := jI) hF)
theorem b_X7_there_71 {d : Nat} (hd : 5 ≤ d) {Q : Option Value → Hp → Prop}  (v1 : Int32) (v2 : Int32) (v4 : Int32) (vk0 : Int32) (sg : Hp) (hF : ok jI (B_X7_there_71  v1 v2 v4 vk0 sg) Q) : pw tM (d + 1) mX7_there 71 [(1, .int v1), (2, .int v2), (4, .int v4)] [.int vk0, .ref 300] sg Q := by
  unfold B_X7_there_71 at hF
  refine p_iconst (v := 4) (by decide) dX7_there_71 ?_
  refine p_iload_n rfl dX7_there_72 ?_
  refine p_imul dX7_there_73 ?_
  refine p_iadd dX7_there_74 ?_
  refine p_iload_n rfl dX7_there_75 ?_
  refine p_iadd dX7_there_76 ?_
  refine p_iload rfl dX7_there_77 ?_
  refine p_callV (c0 := 300) (av := [.int _, .int _]) qV_RX7_108 rfl rfl rfl rfl (Nat.le_of_ble_eq_true rfl) (Nat.le_of_ble_eq_true rfl) dX7_there_79 (tX7_of (ok_b hF)) (fun r0 s10 hF => ?_)
  obtain ⟨r9, rfl, hF⟩ := hF
  exact p_iret rfl dX7_there_82 (ok_r (j := jI) hF)
theorem tX7_there {d : Nat} (hd : 6 ≤ d) {Q : Option Value → Hp → Prop} {a1 : Int32} {a2 : Int32} {a3 : Int32} {a4 : Int32} {sg : Hp} (hF : ok jI (fX7_there a1 a2 a3 a4 sg) Q) : pw tM d mX7_there 0 (lv_args 0 [.ref 300, .int a1, .int a2, .int a3, .int a4]) [] sg Q := by
  unfold fX7_there at hF
  obtain ⟨d, rfl⟩ : ∃ e, d = e + 1 := ⟨d - 1, by omega⟩
  have hd : 5 ≤ d := by omega
  show pw _ _ _ _ [(0, .ref 300), (1, .int a1), (2, .int a2), (3, .int a3), (4, .int a4)] [] _ _
  refine p_aload_n rfl dX7_there_0 ?_
  refine p_iload_n rfl dX7_there_1 ?_
  refine p_iload_n rfl dX7_there_2 ?_
  refine p_callV (c0 := 300) (av := [.int _, .int _]) qV_RX7_232 rfl rfl rfl rfl (Nat.le_of_ble_eq_true rfl) (Nat.le_of_ble_eq_true rfl) dX7_there_3 (tX7_noStep (by omega) (ok_b hF)) (fun r0 s2 hF => ?_)
  obtain ⟨r1, rfl, hF⟩ := hF
  refine p_if_eq (tgt := 11) dX7_there_6 (by decide) (fun hc => ?_) (fun hc => ?_)
  · have hF := ok_t hc hF
    refine p_iload_n rfl dX7_there_11 ?_
    refine p_i2l dX7_there_12 ?_
    refine p_lconst (v := 0) (by decide) dX7_there_13 ?_
    refine p_ldc2 wd_864 dX7_there_14 ?_
    refine p_callS (av := [.long _, .long _, .long _]) qS_RX7_67 rfl (Nat.le_of_ble_eq_true rfl) (Nat.le_of_ble_eq_true rfl) dX7_there_17 (tX7_in (ok_b hF)) (fun r0 s4 hF => ?_)
    obtain ⟨r3, rfl, hF⟩ := hF
    refine p_if_eq (tgt := 36) dX7_there_20 (by decide) (fun hc => ?_) (fun hc => ?_)
    · have hF := ok_t hc hF
      exact p_lv [] rfl (b_X7_there_36 hd  _ hF)
    · have hF := ok_f hc hF
      refine p_iload rfl dX7_there_23 ?_
      refine p_i2l dX7_there_25 ?_
      refine p_lconst (v := 0) (by decide) dX7_there_26 ?_
      refine p_ldc2 wd_876 dX7_there_27 ?_
      refine p_callS (av := [.long _, .long _, .long _]) qS_RX7_67 rfl (Nat.le_of_ble_eq_true rfl) (Nat.le_of_ble_eq_true rfl) dX7_there_30 (tX7_in (ok_b hF)) (fun r0 s6 hF => ?_)
      obtain ⟨r5, rfl, hF⟩ := hF
      refine p_if_ne (tgt := 39) dX7_there_33 (by decide) (fun hc => ?_) (fun hc => ?_)
      · have hF := ok_f hc hF
        refine p_aload_n rfl dX7_there_39 ?_
        refine p_callV (c0 := 300) (av := []) qV_RX7_235 rfl rfl rfl rfl (Nat.le_of_ble_eq_true rfl) (Nat.le_of_ble_eq_true rfl) dX7_there_40 (tX7_layAll (by omega) (ok_b hF)) (fun r0 s8 hF => ?_)
        obtain ⟨r7, rfl, hF⟩ := hF
        refine p_if_ne (tgt := 49) dX7_there_43 (by decide) (fun hc => ?_) (fun hc => ?_)
        · have hF := ok_f hc hF
          refine p_aload_n rfl dX7_there_49 ?_
          refine p_iload_n rfl dX7_there_50 ?_
          refine p_if_ne (tgt := 59) dX7_there_51 (by decide) (fun hc => ?_) (fun hc => ?_)
          · have hF := ok_f hc hF
            refine p_iload_n rfl dX7_there_59 ?_
            refine p_iconst (v := 1) (by decide) dX7_there_60 ?_
            refine p_icmp_ne (tgt := 69) dX7_there_61 (by decide) (fun hc => ?_) (fun hc => ?_)
            · have hF := ok_f hc hF
              refine p_bipush (v := 64) (by decide) dX7_there_69 ?_
              exact p_lv [1, 2, 4] rfl (b_X7_there_71 hd  _ _ _ _ _ hF)
            · have hF := ok_t hc hF
              refine p_bipush (v := 44) (by decide) dX7_there_64 ?_
              refine p_goto (tgt := 71) dX7_there_66 (by decide) ?_
              exact p_lv [1, 2, 4] rfl (b_X7_there_71 hd  _ _ _ _ _ hF)
          · have hF := ok_t hc hF
            refine p_bipush (v := 24) (by decide) dX7_there_54 ?_
            refine p_goto (tgt := 71) dX7_there_56 (by decide) ?_
            exact p_lv [1, 2, 4] rfl (b_X7_there_71 hd  _ _ _ _ _ hF)
        · have hF := ok_t hc hF
          refine p_bipush (v := -3) (by decide) dX7_there_46 ?_
          exact p_iret rfl dX7_there_48 (ok_r (j := jI) hF)
      · have hF := ok_t hc hF
        exact p_lv [] rfl (b_X7_there_36 hd  _ hF)
  · have hF := ok_f hc hF
    refine p_iconst (v := -1) (by decide) dX7_there_9 ?_
    exact p_iret rfl dX7_there_10 (ok_r (j := jI) hF)
theorem b_X7_heapAt_25 {d : Nat} (hd : 5 ≤ d) {Q : Option Value → Hp → Prop}   (sg : Hp) (hF : ok jI (B_X7_heapAt_25   sg) Q) : pw tM (d + 1) mX7_heapAt 25 [] [] sg Q := by
  unfold B_X7_heapAt_25 at hF
  refine p_bipush (v := -3) (by decide) dX7_heapAt_25 ?_
  exact p_iret rfl dX7_heapAt_27 (ok_r (j := jI) hF)
theorem tX7_heapAt {d : Nat} (hd : 6 ≤ d) {Q : Option Value → Hp → Prop} {a1 : Int32} {sg : Hp} (hF : ok jI (fX7_heapAt a1 sg) Q) : pw tM d mX7_heapAt 0 (lv_args 0 [.ref 300, .int a1]) [] sg Q := by
  unfold fX7_heapAt at hF
  obtain ⟨d, rfl⟩ : ∃ e, d = e + 1 := ⟨d - 1, by omega⟩
  have hd : 5 ≤ d := by omega
  show pw _ _ _ _ [(0, .ref 300), (1, .int a1)] [] _ _
  refine p_iload_n rfl dX7_heapAt_0 ?_
  refine p_callS (av := [.int _]) qS_RX7_193 rfl (Nat.le_of_ble_eq_true rfl) (Nat.le_of_ble_eq_true rfl) dX7_heapAt_1 (tX7_noNode (by omega) (ok_b hF)) (fun r0 s2 hF => ?_)
  obtain ⟨r1, rfl, hF⟩ := hF
  refine p_if_eq (tgt := 9) dX7_heapAt_4 (by decide) (fun hc => ?_) (fun hc => ?_)
  · have hF := ok_t hc hF
    refine p_aload_n rfl dX7_heapAt_9 ?_
    refine p_getR (c1 := 311) qF_RX7_25 rfl rfl dX7_heapAt_10 ?_
    refine p_iload_n rfl dX7_heapAt_13 ?_
    obtain ⟨hg, hF⟩ := ok_g hF
    refine p_iald rfl (inb_in hg) dX7_heapAt_14 ?_
    refine p_if_lt (tgt := 25) dX7_heapAt_15 (by decide) (fun hc => ?_) (fun hc => ?_)
    · have hF := ok_t hc hF
      exact p_lv [] rfl (b_X7_heapAt_25 hd  _ hF)
    · have hF := ok_f hc hF
      refine p_aload_n rfl dX7_heapAt_18 ?_
      refine p_callV (c0 := 300) (av := []) qV_RX7_235 rfl rfl rfl rfl (Nat.le_of_ble_eq_true rfl) (Nat.le_of_ble_eq_true rfl) dX7_heapAt_19 (tX7_layAll (by omega) (ok_b hF)) (fun r0 s4 hF => ?_)
      obtain ⟨r3, rfl, hF⟩ := hF
      refine p_if_ne (tgt := 28) dX7_heapAt_22 (by decide) (fun hc => ?_) (fun hc => ?_)
      · have hF := ok_f hc hF
        refine p_aload_n rfl dX7_heapAt_28 ?_
        refine p_iload_n rfl dX7_heapAt_29 ?_
        refine p_aload_n rfl dX7_heapAt_30 ?_
        refine p_getI qF_RX7_190 rfl rfl dX7_heapAt_31 ?_
        refine p_bipush (v := -9) (by decide) dX7_heapAt_34 ?_
        refine p_bipush (v := 84) (by decide) dX7_heapAt_36 ?_
        refine p_callV (c0 := 300) (av := [.int _, .int _, .int _, .int _]) qV_RX7_220 rfl rfl rfl rfl (Nat.le_of_ble_eq_true rfl) (Nat.le_of_ble_eq_true rfl) dX7_heapAt_38 (tX7_laySum (by omega) (ok_b hF)) (fun r0 s6 hF => ?_)
        obtain ⟨r5, rfl, hF⟩ := hF
        refine p_aload_n rfl dX7_heapAt_41 ?_
        refine p_bipush (v := 84) (by decide) dX7_heapAt_42 ?_
        refine p_aload_n rfl dX7_heapAt_44 ?_
        refine p_getR (c1 := 311) qF_RX7_25 rfl rfl dX7_heapAt_45 ?_
        refine p_iload_n rfl dX7_heapAt_48 ?_
        obtain ⟨hg, hF⟩ := ok_g hF
        refine p_iald rfl (inb_in hg) dX7_heapAt_49 ?_
        refine p_callV (c0 := 300) (av := [.int _, .int _]) qV_RX7_185 rfl rfl rfl rfl (Nat.le_of_ble_eq_true rfl) (Nat.le_of_ble_eq_true rfl) dX7_heapAt_50 (tX7_heapOf (by omega) (ok_b hF)) (fun r0 s8 hF => ?_)
        obtain ⟨r7, rfl, hF⟩ := hF
        exact p_iret rfl dX7_heapAt_53 (ok_r (j := jI) hF)
      · have hF := ok_t hc hF
        exact p_lv [] rfl (b_X7_heapAt_25 hd  _ hF)
  · have hF := ok_f hc hF
    refine p_iconst (v := -1) (by decide) dX7_heapAt_7 ?_
    exact p_iret rfl dX7_heapAt_8 (ok_r (j := jI) hF)
theorem b_X7_bound_123 {d : Nat} (hd : 5 ≤ d) {Q : Option Value → Hp → Prop} {k65 : Int32 → Int32 → Int32 → Int32 → Hp → Option (Int32 × Hp)} (hk65 : ∀ (z1 : Int32) (z2 : Int32) (z3 : Int32) (z4 : Int32) (s2 : Hp), ok jI (k65 z1 z2 z3 z4 s2) Q → pw tM (d + 1) mX7_bound 65 [(0, .ref 300), (1, .int z1), (2, .int z2), (3, .int z3), (4, .int z4)] [] s2 Q) (v1 : Int32) (v2 : Int32) (v3 : Int32) (v4 : Int32) (sg : Hp) (hF : ok jI (B_X7_bound_123 k65 v1 v2 v3 v4 sg) Q) : pw tM (d + 1) mX7_bound 123 [(0, .ref 300), (1, .int v1), (2, .int v2), (3, .int v3), (4, .int v4)] [] sg Q := by
  unfold B_X7_bound_123 at hF
  refine p_iinc (w := 1) (by decide) rfl (Nat.le_of_ble_eq_true rfl) rfl dX7_bound_123 ?_
  refine p_goto (tgt := 65) dX7_bound_126 (by decide) ?_
  exact p_lv [0, 1, 2, 3, 4] rfl (hk65 _ _ _ _ _ hF)
theorem l_X7_bound_65 {d : Nat} (hd : 5 ≤ d) {Q : Option Value → Hp → Prop} {k129 : Int32 → Int32 → Int32 → Hp → Option (Int32 × Hp)} (hk129 : ∀ (z1 : Int32) (z2 : Int32) (z3 : Int32) (s2 : Hp), ok jI (k129 z1 z2 z3 s2) Q → pw tM (d + 1) mX7_bound 129 [(0, .ref 300), (1, .int z1), (2, .int z2), (3, .int z3)] [] s2 Q) : ∀ (n : Nat) (v1 : Int32) (v2 : Int32) (v3 : Int32) (v4 : Int32) (sg : Hp), ok jI (L_X7_bound_65 k129 n v1 v2 v3 v4 sg) Q → pw tM (d + 1) mX7_bound 65 [(0, .ref 300), (1, .int v1), (2, .int v2), (3, .int v3), (4, .int v4)] [] sg Q := by
  intro n
  induction n with
  | zero =>
    intro v1 v2 v3 v4 sg hF
    obtain ⟨_, _, h9, _⟩ := hF
    cases h9
  | succ n ih =>
    intro v1 v2 v3 v4 sg hF
    refine p_iload rfl dX7_bound_65 ?_
    refine p_aload_n rfl dX7_bound_67 ?_
    refine p_getR (c1 := 314) qF_RX7_31 rfl rfl dX7_bound_68 ?_
    refine p_iload_n rfl dX7_bound_71 ?_
    obtain ⟨hg, hF⟩ := ok_g hF
    refine p_iald rfl (inb_in hg) dX7_bound_72 ?_
    refine p_icmp_ge (tgt := 129) dX7_bound_73 (by decide) (fun hc => ?_) (fun hc => ?_)
    · have hF := ok_t hc hF
      exact p_lv [0, 1, 2, 3] rfl (hk129 _ _ _ _ hF)
    · have hF := ok_f hc hF
      refine p_iload_n rfl dX7_bound_76 ?_
      refine p_aload_n rfl dX7_bound_77 ?_
      refine p_getR (c1 := 318) qF_RX7_40 rfl rfl dX7_bound_78 ?_
      refine p_iconst (v := 4) (by decide) dX7_bound_81 ?_
      refine p_iload_n rfl dX7_bound_82 ?_
      refine p_imul dX7_bound_83 ?_
      refine p_iload rfl dX7_bound_84 ?_
      refine p_iadd dX7_bound_86 ?_
      obtain ⟨hg, hF⟩ := ok_g hF
      refine p_iald rfl (inb_in hg) dX7_bound_87 ?_
      refine p_iadd dX7_bound_88 ?_
      refine p_istore_n (Nat.le_of_ble_eq_true rfl) rfl dX7_bound_89 ?_
      refine p_iload rfl dX7_bound_90 ?_
      refine p_if_le (tgt := 123) dX7_bound_92 (by decide) (fun hc => ?_) (fun hc => ?_)
      · have hF := ok_t hc hF
        exact p_lv [0, 1, 2, 3, 4] rfl (b_X7_bound_123 hd ih _ _ _ _ _ hF)
      · have hF := ok_f hc hF
        refine p_aload_n rfl dX7_bound_95 ?_
        refine p_iconst (v := 2) (by decide) dX7_bound_96 ?_
        refine p_bipush (v := 85) (by decide) dX7_bound_97 ?_
        refine p_bipush (v := 44) (by decide) dX7_bound_99 ?_
        refine p_iconst (v := 4) (by decide) dX7_bound_101 ?_
        refine p_iload_n rfl dX7_bound_102 ?_
        refine p_imul dX7_bound_103 ?_
        refine p_iadd dX7_bound_104 ?_
        refine p_iload rfl dX7_bound_105 ?_
        refine p_iadd dX7_bound_107 ?_
        refine p_bipush (v := 86) (by decide) dX7_bound_108 ?_
        refine p_callV (c0 := 300) (av := [.int _, .int _, .int _, .int _]) qV_RX7_157 rfl rfl rfl rfl (Nat.le_of_ble_eq_true rfl) (Nat.le_of_ble_eq_true rfl) dX7_bound_110 (tX7_layBoth (by omega) (ok_b hF)) (fun r0 s10 hF => ?_)
        obtain ⟨r9, rfl, hF⟩ := hF
        refine p_aload_n rfl dX7_bound_113 ?_
        refine p_iconst (v := 0) (by decide) dX7_bound_114 ?_
        refine p_bipush (v := 86) (by decide) dX7_bound_115 ?_
        refine p_iconst (v := 0) (by decide) dX7_bound_117 ?_
        refine p_bipush (v := 85) (by decide) dX7_bound_118 ?_
        refine p_callV (c0 := 300) (av := [.int _, .int _, .int _, .int _]) qV_RX7_176 rfl rfl rfl rfl (Nat.le_of_ble_eq_true rfl) (Nat.le_of_ble_eq_true rfl) dX7_bound_120 (tX7_layMoved (by omega) (ok_b hF)) (fun r0 s12 hF => ?_)
        obtain ⟨r11, rfl, hF⟩ := hF
        exact p_lv [0, 1, 2, 3, 4] rfl (b_X7_bound_123 hd ih _ _ _ _ _ hF)
theorem b_X7_bound_151 {d : Nat} (hd : 5 ≤ d) {Q : Option Value → Hp → Prop}  (vk0 : Int32) (sg : Hp) (hF : ok jI (B_X7_bound_151  vk0 sg) Q) : pw tM (d + 1) mX7_bound 151 [] [.int vk0] sg Q := by
  unfold B_X7_bound_151 at hF
  exact p_iret rfl dX7_bound_151 (ok_r (j := jI) hF)
theorem b_X7_bound_43 {d : Nat} (hd : 5 ≤ d) {Q : Option Value → Hp → Prop}   (sg : Hp) (hF : ok jI (B_X7_bound_43   sg) Q) : pw tM (d + 1) mX7_bound 43 [] [] sg Q := by
  unfold B_X7_bound_43 at hF
  refine p_bipush (v := -3) (by decide) dX7_bound_43 ?_
  exact p_iret rfl dX7_bound_45 (ok_r (j := jI) hF)
theorem b_X7_bound_36 {d : Nat} (hd : 5 ≤ d) {Q : Option Value → Hp → Prop}  (v1 : Int32) (v2 : Int32) (sg : Hp) (hF : ok jI (B_X7_bound_36  v1 v2 sg) Q) : pw tM (d + 1) mX7_bound 36 [(0, .ref 300), (1, .int v1), (2, .int v2)] [] sg Q := by
  unfold B_X7_bound_36 at hF
  refine p_aload_n rfl dX7_bound_36 ?_
  refine p_callV (c0 := 300) (av := []) qV_RX7_235 rfl rfl rfl rfl (Nat.le_of_ble_eq_true rfl) (Nat.le_of_ble_eq_true rfl) dX7_bound_37 (tX7_layAll (by omega) (ok_b hF)) (fun r0 s6 hF => ?_)
  obtain ⟨r5, rfl, hF⟩ := hF
  refine p_if_ne (tgt := 46) dX7_bound_40 (by decide) (fun hc => ?_) (fun hc => ?_)
  · have hF := ok_f hc hF
    refine p_iconst (v := 0) (by decide) dX7_bound_46 ?_
    refine p_istore_n (Nat.le_of_ble_eq_true rfl) rfl dX7_bound_47 ?_
    refine p_aload_n rfl dX7_bound_48 ?_
    refine p_iconst (v := 0) (by decide) dX7_bound_49 ?_
    refine p_bipush (v := 44) (by decide) dX7_bound_50 ?_
    refine p_iconst (v := 4) (by decide) dX7_bound_52 ?_
    refine p_iload_n rfl dX7_bound_53 ?_
    refine p_imul dX7_bound_54 ?_
    refine p_iadd dX7_bound_55 ?_
    refine p_iconst (v := 0) (by decide) dX7_bound_56 ?_
    refine p_bipush (v := 85) (by decide) dX7_bound_57 ?_
    refine p_callV (c0 := 300) (av := [.int _, .int _, .int _, .int _]) qV_RX7_176 rfl rfl rfl rfl (Nat.le_of_ble_eq_true rfl) (Nat.le_of_ble_eq_true rfl) dX7_bound_59 (tX7_layMoved (by omega) (ok_b hF)) (fun r0 s8 hF => ?_)
    obtain ⟨r7, rfl, hF⟩ := hF
    refine p_iconst (v := 0) (by decide) dX7_bound_62 ?_
    refine p_istore (Nat.le_of_ble_eq_true rfl) rfl dX7_bound_63 ?_
    refine p_lv [0, 1, 2, 3, 4] rfl (l_X7_bound_65 hd ?_ 200 _ _ _ _ _ hF)
    intro w13_1 w13_2 w13_3 s14 hF
    refine p_iload_n rfl dX7_bound_129 ?_
    refine p_if_ne (tgt := 137) dX7_bound_130 (by decide) (fun hc => ?_) (fun hc => ?_)
    · have hF := ok_f hc hF
      refine p_aload_n rfl dX7_bound_137 ?_
      refine p_aload_n rfl dX7_bound_138 ?_
      refine p_getR (c1 := 313) qF_RX7_28 rfl rfl dX7_bound_139 ?_
      refine p_iload_n rfl dX7_bound_142 ?_
      obtain ⟨hg, hF⟩ := ok_g hF
      refine p_iald rfl (inb_in hg) dX7_bound_143 ?_
      refine p_bipush (v := 85) (by decide) dX7_bound_144 ?_
      refine p_bipush (v := 20) (by decide) dX7_bound_146 ?_
      refine p_callV (c0 := 300) (av := [.int _, .int _, .int _]) qV_RX7_182 rfl rfl rfl rfl (Nat.le_of_ble_eq_true rfl) (Nat.le_of_ble_eq_true rfl) dX7_bound_148 (tX7_waitOf (by omega) (ok_b hF)) (fun r0 s16 hF => ?_)
      obtain ⟨r15, rfl, hF⟩ := hF
      exact p_lv [] rfl (b_X7_bound_151 hd  _ _ hF)
    · have hF := ok_t hc hF
      refine p_iload_n rfl dX7_bound_133 ?_
      refine p_goto (tgt := 151) dX7_bound_134 (by decide) ?_
      exact p_lv [] rfl (b_X7_bound_151 hd  _ _ hF)
  · have hF := ok_t hc hF
    exact p_lv [] rfl (b_X7_bound_43 hd  _ hF)
theorem tX7_bound {d : Nat} (hd : 6 ≤ d) {Q : Option Value → Hp → Prop} {a1 : Int32} {a2 : Int32} {sg : Hp} (hF : ok jI (fX7_bound a1 a2 sg) Q) : pw tM d mX7_bound 0 (lv_args 0 [.ref 300, .int a1, .int a2]) [] sg Q := by
  unfold fX7_bound at hF
  obtain ⟨d, rfl⟩ : ∃ e, d = e + 1 := ⟨d - 1, by omega⟩
  have hd : 5 ≤ d := by omega
  show pw _ _ _ _ [(0, .ref 300), (1, .int a1), (2, .int a2)] [] _ _
  refine p_aload_n rfl dX7_bound_0 ?_
  refine p_iload_n rfl dX7_bound_1 ?_
  refine p_callV (c0 := 300) (av := [.int _]) qV_RX7_199 rfl rfl rfl rfl (Nat.le_of_ble_eq_true rfl) (Nat.le_of_ble_eq_true rfl) dX7_bound_2 (tX7_noFlow (by omega) (ok_b hF)) (fun r0 s2 hF => ?_)
  obtain ⟨r1, rfl, hF⟩ := hF
  refine p_if_eq (tgt := 10) dX7_bound_5 (by decide) (fun hc => ?_) (fun hc => ?_)
  · have hF := ok_t hc hF
    refine p_iload_n rfl dX7_bound_10 ?_
    refine p_i2l dX7_bound_11 ?_
    refine p_lconst (v := 0) (by decide) dX7_bound_12 ?_
    refine p_lconst (v := 1) (by decide) dX7_bound_13 ?_
    refine p_callS (av := [.long _, .long _, .long _]) qS_RX7_67 rfl (Nat.le_of_ble_eq_true rfl) (Nat.le_of_ble_eq_true rfl) dX7_bound_14 (tX7_in (ok_b hF)) (fun r0 s4 hF => ?_)
    obtain ⟨r3, rfl, hF⟩ := hF
    refine p_if_ne (tgt := 23) dX7_bound_17 (by decide) (fun hc => ?_) (fun hc => ?_)
    · have hF := ok_f hc hF
      refine p_iload_n rfl dX7_bound_23 ?_
      refine p_iconst (v := 1) (by decide) dX7_bound_24 ?_
      refine p_icmp_ne (tgt := 36) dX7_bound_25 (by decide) (fun hc => ?_) (fun hc => ?_)
      · have hF := ok_f hc hF
        exact p_lv [0, 1, 2] rfl (b_X7_bound_36 hd  _ _ _ hF)
      · have hF := ok_t hc hF
        refine p_aload_n rfl dX7_bound_28 ?_
        refine p_getI qF_RX7_206 rfl rfl dX7_bound_29 ?_
        refine p_iconst (v := 2) (by decide) dX7_bound_32 ?_
        refine p_icmp_eq (tgt := 43) dX7_bound_33 (by decide) (fun hc => ?_) (fun hc => ?_)
        · have hF := ok_t hc hF
          exact p_lv [] rfl (b_X7_bound_43 hd  _ hF)
        · have hF := ok_f hc hF
          exact p_lv [0, 1, 2] rfl (b_X7_bound_36 hd  _ _ _ hF)
    · have hF := ok_t hc hF
      refine p_bipush (v := -2) (by decide) dX7_bound_20 ?_
      exact p_iret rfl dX7_bound_22 (ok_r (j := jI) hF)
  · have hF := ok_f hc hF
    refine p_iconst (v := -1) (by decide) dX7_bound_8 ?_
    exact p_iret rfl dX7_bound_9 (ok_r (j := jI) hF)
theorem b_X7_see_121 {d : Nat} (hd : 1 ≤ d) {Q : Option Value → Hp → Prop} {k76 : Int32 → Int32 → Int32 → Hp → Option (Int32 × Hp)} (hk76 : ∀ (z4 : Int32) (z6 : Int32) (z7 : Int32) (s2 : Hp), ok jI (k76 z4 z6 z7 s2) Q → pw tM (d + 1) mX7_see 76 [(0, .ref 300), (4, .int z4), (6, .int z6), (7, .int z7)] [] s2 Q) (v4 : Int32) (v6 : Int32) (v7 : Int32) (vk0 : Int32) (vk1 : Int32) (vk2 : Int32) (vk3 : Int32) (sg : Hp) (hF : ok jI (B_X7_see_121 k76 v4 v6 v7 vk0 vk1 vk2 vk3 sg) Q) : pw tM (d + 1) mX7_see 121 [(0, .ref 300), (4, .int v4), (6, .int v6), (7, .int v7)] [.int vk0, .int vk1, .int vk2, .int vk3, .ref 300] sg Q := by
  unfold B_X7_see_121 at hF
  refine p_iadd dX7_see_121 ?_
  refine p_i2l dX7_see_122 ?_
  refine p_callV (c0 := 300) (av := [.int _, .int _, .long _]) qV_RX7_88 rfl rfl rfl rfl (Nat.le_of_ble_eq_true rfl) (Nat.le_of_ble_eq_true rfl) dX7_see_123 (tX7_set (ok_b hF)) (fun r0 s12 hF => ?_)
  obtain ⟨r11, rfl, hF⟩ := hF
  refine p_iinc (w := 1) (by decide) rfl (Nat.le_of_ble_eq_true rfl) rfl dX7_see_126 ?_
  refine p_goto (tgt := 76) dX7_see_129 (by decide) ?_
  exact p_lv [0, 4, 6, 7] rfl (hk76 _ _ _ _ hF)
theorem l_X7_see_76 {d : Nat} (hd : 1 ≤ d) {Q : Option Value → Hp → Prop} {k132 : Int32 → Hp → Option (Int32 × Hp)} (hk132 : ∀ (z4 : Int32) (s2 : Hp), ok jI (k132 z4 s2) Q → pw tM (d + 1) mX7_see 132 [(0, .ref 300), (4, .int z4)] [] s2 Q) : ∀ (n : Nat) (v4 : Int32) (v6 : Int32) (v7 : Int32) (sg : Hp), ok jI (L_X7_see_76 k132 n v4 v6 v7 sg) Q → pw tM (d + 1) mX7_see 76 [(0, .ref 300), (4, .int v4), (6, .int v6), (7, .int v7)] [] sg Q := by
  intro n
  induction n with
  | zero =>
    intro v4 v6 v7 sg hF
    obtain ⟨_, _, h9, _⟩ := hF
    cases h9
  | succ n ih =>
    intro v4 v6 v7 sg hF
    refine p_iload rfl dX7_see_76 ?_
    refine p_bipush (v := 41) (by decide) dX7_see_78 ?_
    refine p_icmp_ge (tgt := 132) dX7_see_80 (by decide) (fun hc => ?_) (fun hc => ?_)
    · have hF := ok_t hc hF
      exact p_lv [0, 4] rfl (hk132 _ _ hF)
    · have hF := ok_f hc hF
      refine p_aload_n rfl dX7_see_83 ?_
      refine p_bipush (v := 88) (by decide) dX7_see_84 ?_
      refine p_iload rfl dX7_see_86 ?_
      refine p_aload_n rfl dX7_see_88 ?_
      refine p_bipush (v := 88) (by decide) dX7_see_89 ?_
      refine p_iload rfl dX7_see_91 ?_
      refine p_iconst (v := 1) (by decide) dX7_see_93 ?_
      refine p_isub dX7_see_94 ?_
      refine p_callV (c0 := 300) (av := [.int _, .int _]) qV_RX7_108 rfl rfl rfl rfl (Nat.le_of_ble_eq_true rfl) (Nat.le_of_ble_eq_true rfl) dX7_see_95 (tX7_of (ok_b hF)) (fun r0 s10 hF => ?_)
      obtain ⟨r9, rfl, hF⟩ := hF
      refine p_iload rfl dX7_see_98 ?_
      refine p_iload rfl dX7_see_100 ?_
      refine p_icmp_gt (tgt := 120) dX7_see_102 (by decide) (fun hc => ?_) (fun hc => ?_)
      · have hF := ok_t hc hF
        refine p_iconst (v := 0) (by decide) dX7_see_120 ?_
        exact p_lv [0, 4, 6, 7] rfl (b_X7_see_121 hd ih _ _ _ _ _ _ _ _ hF)
      · have hF := ok_f hc hF
        refine p_aload_n rfl dX7_see_105 ?_
        refine p_getR (c1 := 322) qF_RX7_49 rfl rfl dX7_see_106 ?_
        refine p_iload rfl dX7_see_109 ?_
        refine p_iload rfl dX7_see_111 ?_
        refine p_iadd dX7_see_113 ?_
        refine p_iconst (v := 1) (by decide) dX7_see_114 ?_
        refine p_isub dX7_see_115 ?_
        obtain ⟨hg, hF⟩ := ok_g hF
        refine p_iald rfl (inb_in hg) dX7_see_116 ?_
        refine p_goto (tgt := 121) dX7_see_117 (by decide) ?_
        exact p_lv [0, 4, 6, 7] rfl (b_X7_see_121 hd ih _ _ _ _ _ _ _ _ hF)
theorem tX7_see {d : Nat} (hd : 2 ≤ d) {Q : Option Value → Hp → Prop} {a1 : Int32} {a2 : Int32} {a3 : Int32} {a4 : Int32} {sg : Hp} (hF : ok jI (fX7_see a1 a2 a3 a4 sg) Q) : pw tM d mX7_see 0 (lv_args 0 [.ref 300, .int a1, .int a2, .int a3, .int a4]) [] sg Q := by
  unfold fX7_see at hF
  obtain ⟨d, rfl⟩ : ∃ e, d = e + 1 := ⟨d - 1, by omega⟩
  have hd : 1 ≤ d := by omega
  show pw _ _ _ _ [(0, .ref 300), (1, .int a1), (2, .int a2), (3, .int a3), (4, .int a4)] [] _ _
  refine p_iload_n rfl dX7_see_0 ?_
  refine p_callS (av := [.int _]) qS_RX7_96 rfl (Nat.le_of_ble_eq_true rfl) (Nat.le_of_ble_eq_true rfl) dX7_see_1 (tX7_noSheet (by omega) (ok_b hF)) (fun r0 s2 hF => ?_)
  obtain ⟨r1, rfl, hF⟩ := hF
  refine p_if_eq (tgt := 13) dX7_see_4 (by decide) (fun hc => ?_) (fun hc => ?_)
  · have hF := ok_t hc hF
    refine p_aload_n rfl dX7_see_13 ?_
    refine p_iload_n rfl dX7_see_14 ?_
    refine p_iload_n rfl dX7_see_15 ?_
    refine p_iload_n rfl dX7_see_16 ?_
    refine p_iload rfl dX7_see_17 ?_
    refine p_i2l dX7_see_19 ?_
    refine p_callV (c0 := 300) (av := [.int _, .int _, .int _, .long _]) qV_RX7_100 rfl rfl rfl rfl (Nat.le_of_ble_eq_true rfl) (Nat.le_of_ble_eq_true rfl) dX7_see_20 (tX7_barred (by omega) (ok_b hF)) (fun r0 s4 hF => ?_)
    obtain ⟨r3, rfl, hF⟩ := hF
    refine p_istore (Nat.le_of_ble_eq_true rfl) rfl dX7_see_23 ?_
    refine p_iload rfl dX7_see_25 ?_
    refine p_if_ge (tgt := 33) dX7_see_27 (by decide) (fun hc => ?_) (fun hc => ?_)
    · have hF := ok_t hc hF
      refine p_bipush (v := 60) (by decide) dX7_see_33 ?_
      refine p_iload_n rfl dX7_see_35 ?_
      refine p_imul dX7_see_36 ?_
      refine p_iload_n rfl dX7_see_37 ?_
      refine p_iadd dX7_see_38 ?_
      refine p_istore (Nat.le_of_ble_eq_true rfl) rfl dX7_see_39 ?_
      refine p_aload_n rfl dX7_see_41 ?_
      refine p_iload rfl dX7_see_42 ?_
      refine p_iload rfl dX7_see_44 ?_
      refine p_callV (c0 := 300) (av := [.int _, .int _]) qV_RX7_104 rfl rfl rfl rfl (Nat.le_of_ble_eq_true rfl) (Nat.le_of_ble_eq_true rfl) dX7_see_46 (tX7_areSteps (by omega) (ok_b hF)) (fun r0 s6 hF => ?_)
      obtain ⟨r5, rfl, hF⟩ := hF
      refine p_if_ne (tgt := 59) dX7_see_49 (by decide) (fun hc => ?_) (fun hc => ?_)
      · have hF := ok_f hc hF
        refine p_aload_n rfl dX7_see_59 ?_
        refine p_iload rfl dX7_see_60 ?_
        refine p_put qF_RX7_238 qP_6_19 rfl rfl rfl rfl dX7_see_62 ?_
        refine p_aload_n rfl dX7_see_65 ?_
        refine p_bipush (v := 88) (by decide) dX7_see_66 ?_
        refine p_iconst (v := 0) (by decide) dX7_see_68 ?_
        refine p_lconst (v := 0) (by decide) dX7_see_69 ?_
        refine p_callV (c0 := 300) (av := [.int _, .int _, .long _]) qV_RX7_88 rfl rfl rfl rfl (Nat.le_of_ble_eq_true rfl) (Nat.le_of_ble_eq_true rfl) dX7_see_70 (tX7_set (ok_b hF)) (fun r0 s8 hF => ?_)
        obtain ⟨r7, rfl, hF⟩ := hF
        refine p_iconst (v := 1) (by decide) dX7_see_73 ?_
        refine p_istore (Nat.le_of_ble_eq_true rfl) rfl dX7_see_74 ?_
        refine p_lv [0, 4, 6, 7] rfl (l_X7_see_76 hd ?_ 200 _ _ _ _ hF)
        intro w13_4 s14 hF
        refine p_aload_n rfl dX7_see_132 ?_
        refine p_iload rfl dX7_see_133 ?_
        refine p_callV (c0 := 300) (av := [.int _]) qV_RX7_71 rfl rfl rfl rfl (Nat.le_of_ble_eq_true rfl) (Nat.le_of_ble_eq_true rfl) dX7_see_135 (tX7_refused (ok_b hF)) (fun r0 s16 hF => ?_)
        obtain ⟨r15, rfl, hF⟩ := hF
        exact p_iret rfl dX7_see_138 (ok_r (j := jI) hF)
      · have hF := ok_t hc hF
        refine p_aload_n rfl dX7_see_52 ?_
        refine p_bipush (v := -2) (by decide) dX7_see_53 ?_
        refine p_callV (c0 := 300) (av := [.int _]) qV_RX7_71 rfl rfl rfl rfl (Nat.le_of_ble_eq_true rfl) (Nat.le_of_ble_eq_true rfl) dX7_see_55 (tX7_refused (ok_b hF)) (fun r0 s18 hF => ?_)
        obtain ⟨r17, rfl, hF⟩ := hF
        exact p_iret rfl dX7_see_58 (ok_r (j := jI) hF)
    · have hF := ok_f hc hF
      refine p_iload rfl dX7_see_30 ?_
      exact p_iret rfl dX7_see_32 (ok_r (j := jI) hF)
  · have hF := ok_f hc hF
    refine p_aload_n rfl dX7_see_7 ?_
    refine p_iconst (v := -1) (by decide) dX7_see_8 ?_
    refine p_callV (c0 := 300) (av := [.int _]) qV_RX7_71 rfl rfl rfl rfl (Nat.le_of_ble_eq_true rfl) (Nat.le_of_ble_eq_true rfl) dX7_see_9 (tX7_refused (ok_b hF)) (fun r0 s20 hF => ?_)
    obtain ⟨r19, rfl, hF⟩ := hF
    exact p_iret rfl dX7_see_12 (ok_r (j := jI) hF)
theorem l_X7_breaks_14 {d : Nat} {Q : Option Value → Hp → Prop} {k57 : Int32 → Int32 → Hp → Option (Int32 × Hp)} (hk57 : ∀ (z1 : Int32) (z2 : Int32) (s2 : Hp), ok jI (k57 z1 z2 s2) Q → pw tM (d + 1) mX7_breaks 57 [(0, .ref 300), (1, .int z1), (2, .int z2)] [] s2 Q) {k44 : Int32 → Int32 → Hp → Option (Int32 × Hp)} (hk44 : ∀ (z2 : Int32) (z3 : Int32) (s2 : Hp), ok jI (k44 z2 z3 s2) Q → pw tM (d + 1) mX7_breaks 44 [(2, .int z2), (3, .int z3)] [] s2 Q) : ∀ (n : Nat) (v1 : Int32) (v2 : Int32) (v3 : Int32) (sg : Hp), ok jI (L_X7_breaks_14 k57 k44 n v1 v2 v3 sg) Q → pw tM (d + 1) mX7_breaks 14 [(0, .ref 300), (1, .int v1), (2, .int v2), (3, .int v3)] [] sg Q := by
  intro n
  induction n with
  | zero =>
    intro v1 v2 v3 sg hF
    obtain ⟨_, _, h9, _⟩ := hF
    cases h9
  | succ n ih =>
    intro v1 v2 v3 sg hF
    refine p_iload_n rfl dX7_breaks_14 ?_
    refine p_if_lt (tgt := 57) dX7_breaks_15 (by decide) (fun hc => ?_) (fun hc => ?_)
    · have hF := ok_t hc hF
      exact p_lv [0, 1, 2] rfl (hk57 _ _ _ hF)
    · have hF := ok_f hc hF
      refine p_aload_n rfl dX7_breaks_18 ?_
      refine p_bipush (v := 88) (by decide) dX7_breaks_19 ?_
      refine p_iload_n rfl dX7_breaks_21 ?_
      refine p_callV (c0 := 300) (av := [.int _, .int _]) qV_RX7_108 rfl rfl rfl rfl (Nat.le_of_ble_eq_true rfl) (Nat.le_of_ble_eq_true rfl) dX7_breaks_22 (tX7_of (ok_b hF)) (fun r0 s2 hF => ?_)
      obtain ⟨r1, rfl, hF⟩ := hF
      refine p_aload_n rfl dX7_breaks_25 ?_
      refine p_bipush (v := 88) (by decide) dX7_breaks_26 ?_
      refine p_iload_n rfl dX7_breaks_28 ?_
      refine p_callV (c0 := 300) (av := [.int _, .int _]) qV_RX7_108 rfl rfl rfl rfl (Nat.le_of_ble_eq_true rfl) (Nat.le_of_ble_eq_true rfl) dX7_breaks_29 (tX7_of (ok_b hF)) (fun r0 s4 hF => ?_)
      obtain ⟨r3, rfl, hF⟩ := hF
      refine p_isub dX7_breaks_32 ?_
      refine p_aload_n rfl dX7_breaks_33 ?_
      refine p_iload_n rfl dX7_breaks_34 ?_
      refine p_iload_n rfl dX7_breaks_35 ?_
      refine p_iload_n rfl dX7_breaks_36 ?_
      refine p_isub dX7_breaks_37 ?_
      refine p_callV (c0 := 300) (av := [.int _, .int _]) qV_RX7_108 rfl rfl rfl rfl (Nat.le_of_ble_eq_true rfl) (Nat.le_of_ble_eq_true rfl) dX7_breaks_38 (tX7_of (ok_b hF)) (fun r0 s6 hF => ?_)
      obtain ⟨r5, rfl, hF⟩ := hF
      refine p_icmp_le (tgt := 51) dX7_breaks_41 (by decide) (fun hc => ?_) (fun hc => ?_)
      · have hF := ok_t hc hF
        refine p_iinc (w := -1) (by decide) rfl (Nat.le_of_ble_eq_true rfl) rfl dX7_breaks_51 ?_
        refine p_goto (tgt := 14) dX7_breaks_54 (by decide) ?_
        exact p_lv [0, 1, 2, 3] rfl (ih _ _ _ _ hF)
      · have hF := ok_f hc hF
        exact p_lv [2, 3] rfl (hk44 _ _ _ hF)
theorem l_X7_breaks_2 {d : Nat} {Q : Option Value → Hp → Prop} {k63 : Hp → Option (Int32 × Hp)} (hk63 : ∀ (s2 : Hp), ok jI (k63 s2) Q → pw tM (d + 1) mX7_breaks 63 [] [] s2 Q) {k44 : Int32 → Int32 → Hp → Option (Int32 × Hp)} (hk44 : ∀ (z2 : Int32) (z3 : Int32) (s2 : Hp), ok jI (k44 z2 z3 s2) Q → pw tM (d + 1) mX7_breaks 44 [(2, .int z2), (3, .int z3)] [] s2 Q) : ∀ (n : Nat) (v1 : Int32) (v2 : Int32) (sg : Hp), ok jI (L_X7_breaks_2 k63 k44 n v1 v2 sg) Q → pw tM (d + 1) mX7_breaks 2 [(0, .ref 300), (1, .int v1), (2, .int v2)] [] sg Q := by
  intro n
  induction n with
  | zero =>
    intro v1 v2 sg hF
    obtain ⟨_, _, h9, _⟩ := hF
    cases h9
  | succ n ih =>
    intro v1 v2 sg hF
    refine p_iload_n rfl dX7_breaks_2 ?_
    refine p_aload_n rfl dX7_breaks_3 ?_
    refine p_getI qF_RX7_238 rfl rfl dX7_breaks_4 ?_
    refine p_icmp_gt (tgt := 63) dX7_breaks_7 (by decide) (fun hc => ?_) (fun hc => ?_)
    · have hF := ok_t hc hF
      exact p_lv [] rfl (hk63 _ hF)
    · have hF := ok_f hc hF
      refine p_iload_n rfl dX7_breaks_10 ?_
      refine p_iconst (v := 1) (by decide) dX7_breaks_11 ?_
      refine p_isub dX7_breaks_12 ?_
      refine p_istore_n (Nat.le_of_ble_eq_true rfl) rfl dX7_breaks_13 ?_
      refine p_lv [0, 1, 2, 3] rfl (l_X7_breaks_14 ?_ hk44 200 _ _ _ _ hF)
      intro w7_1 w7_2 s8 hF
      refine p_iinc (w := 1) (by decide) rfl (Nat.le_of_ble_eq_true rfl) rfl dX7_breaks_57 ?_
      refine p_goto (tgt := 2) dX7_breaks_60 (by decide) ?_
      exact p_lv [0, 1, 2] rfl (ih _ _ _ hF)
theorem tX7_breaks {d : Nat} (hd : 1 ≤ d) {Q : Option Value → Hp → Prop} {a1 : Int32} {sg : Hp} (hF : ok jI (fX7_breaks a1 sg) Q) : pw tM d mX7_breaks 0 (lv_args 0 [.ref 300, .int a1]) [] sg Q := by
  unfold fX7_breaks at hF
  obtain ⟨d, rfl⟩ : ∃ e, d = e + 1 := ⟨d - 1, by omega⟩
  show pw _ _ _ _ [(0, .ref 300), (1, .int a1)] [] _ _
  refine p_iconst (v := 1) (by decide) dX7_breaks_0 ?_
  refine p_istore_n (Nat.le_of_ble_eq_true rfl) rfl dX7_breaks_1 ?_
  refine p_lv [0, 1, 2] rfl (l_X7_breaks_2 ?_ ?_ 200 _ _ _ hF)
  · intro s10 hF
    refine p_bipush (v := -9) (by decide) dX7_breaks_63 ?_
    exact p_iret rfl dX7_breaks_65 (ok_r (j := jI) hF)
  · intro w11_2 w11_3 s12 hF
    refine p_bipush (v := 100) (by decide) dX7_breaks_44 ?_
    refine p_iload_n rfl dX7_breaks_46 ?_
    refine p_imul dX7_breaks_47 ?_
    refine p_iload_n rfl dX7_breaks_48 ?_
    refine p_iadd dX7_breaks_49 ?_
    exact p_iret rfl dX7_breaks_50 (ok_r (j := jI) hF)
theorem b_X7_keeps_57 {d : Nat} (hd : 1 ≤ d) {Q : Option Value → Hp → Prop}  (vk0 : Int32) (sg : Hp) (hF : ok jI (B_X7_keeps_57  vk0 sg) Q) : pw tM (d + 1) mX7_keeps 57 [] [.int vk0] sg Q := by
  unfold B_X7_keeps_57 at hF
  exact p_iret rfl dX7_keeps_57 (ok_r (j := jI) hF)
theorem tX7_keeps {d : Nat} (hd : 2 ≤ d) {Q : Option Value → Hp → Prop} {a1 : Int32} {a2 : Int32} {sg : Hp} (hF : ok jI (fX7_keeps a1 a2 sg) Q) : pw tM d mX7_keeps 0 (lv_args 0 [.ref 300, .int a1, .int a2]) [] sg Q := by
  unfold fX7_keeps at hF
  obtain ⟨d, rfl⟩ : ∃ e, d = e + 1 := ⟨d - 1, by omega⟩
  have hd : 1 ≤ d := by omega
  show pw _ _ _ _ [(0, .ref 300), (1, .int a1), (2, .int a2)] [] _ _
  refine p_aload_n rfl dX7_keeps_0 ?_
  refine p_iload_n rfl dX7_keeps_1 ?_
  refine p_callV (c0 := 300) (av := [.int _]) qV_RX7_161 rfl rfl rfl rfl (Nat.le_of_ble_eq_true rfl) (Nat.le_of_ble_eq_true rfl) dX7_keeps_2 (tX7_noStair (by omega) (ok_b hF)) (fun r0 s2 hF => ?_)
  obtain ⟨r1, rfl, hF⟩ := hF
  refine p_if_eq (tgt := 10) dX7_keeps_5 (by decide) (fun hc => ?_) (fun hc => ?_)
  · have hF := ok_t hc hF
    refine p_iload_n rfl dX7_keeps_10 ?_
    refine p_i2l dX7_keeps_11 ?_
    refine p_lconst (v := 0) (by decide) dX7_keeps_12 ?_
    refine p_lconst (v := 1) (by decide) dX7_keeps_13 ?_
    refine p_callS (av := [.long _, .long _, .long _]) qS_RX7_67 rfl (Nat.le_of_ble_eq_true rfl) (Nat.le_of_ble_eq_true rfl) dX7_keeps_14 (tX7_in (ok_b hF)) (fun r0 s4 hF => ?_)
    obtain ⟨r3, rfl, hF⟩ := hF
    refine p_if_ne (tgt := 23) dX7_keeps_17 (by decide) (fun hc => ?_) (fun hc => ?_)
    · have hF := ok_f hc hF
      refine p_aload_n rfl dX7_keeps_23 ?_
      refine p_getI qF_RX7_238 rfl rfl dX7_keeps_24 ?_
      refine p_if_ne (tgt := 33) dX7_keeps_27 (by decide) (fun hc => ?_) (fun hc => ?_)
      · have hF := ok_f hc hF
        refine p_aload_n rfl dX7_keeps_33 ?_
        refine p_iload_n rfl dX7_keeps_34 ?_
        refine p_callV (c0 := 300) (av := [.int _]) qV_RX7_241 rfl rfl rfl rfl (Nat.le_of_ble_eq_true rfl) (Nat.le_of_ble_eq_true rfl) dX7_keeps_35 (tX7_breaks (by omega) (ok_b hF)) (fun r0 s6 hF => ?_)
        obtain ⟨r5, rfl, hF⟩ := hF
        refine p_istore_n (Nat.le_of_ble_eq_true rfl) rfl dX7_keeps_38 ?_
        refine p_iload_n rfl dX7_keeps_39 ?_
        refine p_iconst (v := 1) (by decide) dX7_keeps_40 ?_
        refine p_icmp_ne (tgt := 48) dX7_keeps_41 (by decide) (fun hc => ?_) (fun hc => ?_)
        · have hF := ok_f hc hF
          refine p_iload_n rfl dX7_keeps_48 ?_
          refine p_if_ge (tgt := 56) dX7_keeps_49 (by decide) (fun hc => ?_) (fun hc => ?_)
          · have hF := ok_t hc hF
            refine p_iconst (v := 0) (by decide) dX7_keeps_56 ?_
            exact p_lv [] rfl (b_X7_keeps_57 hd  _ _ hF)
          · have hF := ok_f hc hF
            refine p_iconst (v := 1) (by decide) dX7_keeps_52 ?_
            refine p_goto (tgt := 57) dX7_keeps_53 (by decide) ?_
            exact p_lv [] rfl (b_X7_keeps_57 hd  _ _ hF)
        · have hF := ok_t hc hF
          refine p_iload_n rfl dX7_keeps_44 ?_
          refine p_goto (tgt := 57) dX7_keeps_45 (by decide) ?_
          exact p_lv [] rfl (b_X7_keeps_57 hd  _ _ hF)
      · have hF := ok_t hc hF
        refine p_bipush (v := -3) (by decide) dX7_keeps_30 ?_
        exact p_iret rfl dX7_keeps_32 (ok_r (j := jI) hF)
    · have hF := ok_t hc hF
      refine p_bipush (v := -2) (by decide) dX7_keeps_20 ?_
      exact p_iret rfl dX7_keeps_22 (ok_r (j := jI) hF)
  · have hF := ok_f hc hF
    refine p_iconst (v := -1) (by decide) dX7_keeps_8 ?_
    exact p_iret rfl dX7_keeps_9 (ok_r (j := jI) hF)
theorem l_X7_burst_40 {d : Nat} {Q : Option Value → Hp → Prop} {k80 : Int32 → Int32 → Int32 → Hp → Option (Int32 × Hp)} (hk80 : ∀ (z1 : Int32) (z2 : Int32) (z3 : Int32) (s2 : Hp), ok jI (k80 z1 z2 z3 s2) Q → pw tM (d + 1) mX7_burst 80 [(0, .ref 300), (1, .int z1), (2, .int z2), (3, .int z3)] [] s2 Q) : ∀ (n : Nat) (v1 : Int32) (v2 : Int32) (v3 : Int32) (v4 : Int32) (sg : Hp), ok jI (L_X7_burst_40 k80 n v1 v2 v3 v4 sg) Q → pw tM (d + 1) mX7_burst 40 [(0, .ref 300), (1, .int v1), (2, .int v2), (3, .int v3), (4, .int v4)] [] sg Q := by
  intro n
  induction n with
  | zero =>
    intro v1 v2 v3 v4 sg hF
    obtain ⟨_, _, h9, _⟩ := hF
    cases h9
  | succ n ih =>
    intro v1 v2 v3 v4 sg hF
    refine p_iload rfl dX7_burst_40 ?_
    refine p_iload_n rfl dX7_burst_42 ?_
    refine p_icmp_ge (tgt := 80) dX7_burst_43 (by decide) (fun hc => ?_) (fun hc => ?_)
    · have hF := ok_t hc hF
      exact p_lv [0, 1, 2, 3] rfl (hk80 _ _ _ _ hF)
    · have hF := ok_f hc hF
      refine p_iload_n rfl dX7_burst_46 ?_
      refine p_aload_n rfl dX7_burst_47 ?_
      refine p_bipush (v := 88) (by decide) dX7_burst_48 ?_
      refine p_iload_n rfl dX7_burst_50 ?_
      refine p_callV (c0 := 300) (av := [.int _, .int _]) qV_RX7_108 rfl rfl rfl rfl (Nat.le_of_ble_eq_true rfl) (Nat.le_of_ble_eq_true rfl) dX7_burst_51 (tX7_of (ok_b hF)) (fun r0 s4 hF => ?_)
      obtain ⟨r3, rfl, hF⟩ := hF
      refine p_aload_n rfl dX7_burst_54 ?_
      refine p_bipush (v := 88) (by decide) dX7_burst_55 ?_
      refine p_iload rfl dX7_burst_57 ?_
      refine p_callV (c0 := 300) (av := [.int _, .int _]) qV_RX7_108 rfl rfl rfl rfl (Nat.le_of_ble_eq_true rfl) (Nat.le_of_ble_eq_true rfl) dX7_burst_59 (tX7_of (ok_b hF)) (fun r0 s6 hF => ?_)
      obtain ⟨r5, rfl, hF⟩ := hF
      refine p_isub dX7_burst_62 ?_
      refine p_iload_n rfl dX7_burst_63 ?_
      refine p_iload_n rfl dX7_burst_64 ?_
      refine p_iload rfl dX7_burst_65 ?_
      refine p_isub dX7_burst_67 ?_
      refine p_imul dX7_burst_68 ?_
      refine p_isub dX7_burst_69 ?_
      refine p_callS (av := [.int _, .int _]) qS_RX7_171 rfl (Nat.le_of_ble_eq_true rfl) (Nat.le_of_ble_eq_true rfl) dX7_burst_70 (tX7_greater (ok_b hF)) (fun r0 s8 hF => ?_)
      obtain ⟨r7, rfl, hF⟩ := hF
      refine p_istore_n (Nat.le_of_ble_eq_true rfl) rfl dX7_burst_73 ?_
      refine p_iinc (w := 1) (by decide) rfl (Nat.le_of_ble_eq_true rfl) rfl dX7_burst_74 ?_
      refine p_goto (tgt := 40) dX7_burst_77 (by decide) ?_
      exact p_lv [0, 1, 2, 3, 4] rfl (ih _ _ _ _ _ hF)
theorem l_X7_burst_29 {d : Nat} {Q : Option Value → Hp → Prop} {k86 : Int32 → Hp → Option (Int32 × Hp)} (hk86 : ∀ (z2 : Int32) (s2 : Hp), ok jI (k86 z2 s2) Q → pw tM (d + 1) mX7_burst 86 [(2, .int z2)] [] s2 Q) : ∀ (n : Nat) (v1 : Int32) (v2 : Int32) (v3 : Int32) (sg : Hp), ok jI (L_X7_burst_29 k86 n v1 v2 v3 sg) Q → pw tM (d + 1) mX7_burst 29 [(0, .ref 300), (1, .int v1), (2, .int v2), (3, .int v3)] [] sg Q := by
  intro n
  induction n with
  | zero =>
    intro v1 v2 v3 sg hF
    obtain ⟨_, _, h9, _⟩ := hF
    cases h9
  | succ n ih =>
    intro v1 v2 v3 sg hF
    refine p_iload_n rfl dX7_burst_29 ?_
    refine p_aload_n rfl dX7_burst_30 ?_
    refine p_getI qF_RX7_238 rfl rfl dX7_burst_31 ?_
    refine p_icmp_gt (tgt := 86) dX7_burst_34 (by decide) (fun hc => ?_) (fun hc => ?_)
    · have hF := ok_t hc hF
      exact p_lv [2] rfl (hk86 _ _ hF)
    · have hF := ok_f hc hF
      refine p_iconst (v := 0) (by decide) dX7_burst_37 ?_
      refine p_istore (Nat.le_of_ble_eq_true rfl) rfl dX7_burst_38 ?_
      refine p_lv [0, 1, 2, 3, 4] rfl (l_X7_burst_40 ?_ 200 _ _ _ _ _ hF)
      intro w9_1 w9_2 w9_3 s10 hF
      refine p_iinc (w := 1) (by decide) rfl (Nat.le_of_ble_eq_true rfl) rfl dX7_burst_80 ?_
      refine p_goto (tgt := 29) dX7_burst_83 (by decide) ?_
      exact p_lv [0, 1, 2, 3] rfl (ih _ _ _ _ hF)
theorem tX7_burst {d : Nat} (hd : 1 ≤ d) {Q : Option Value → Hp → Prop} {a1 : Int32} {sg : Hp} (hF : ok jI (fX7_burst a1 sg) Q) : pw tM d mX7_burst 0 (lv_args 0 [.ref 300, .int a1]) [] sg Q := by
  unfold fX7_burst at hF
  obtain ⟨d, rfl⟩ : ∃ e, d = e + 1 := ⟨d - 1, by omega⟩
  show pw _ _ _ _ [(0, .ref 300), (1, .int a1)] [] _ _
  refine p_iload_n rfl dX7_burst_0 ?_
  refine p_i2l dX7_burst_1 ?_
  refine p_lconst (v := 0) (by decide) dX7_burst_2 ?_
  refine p_ldc2 wd_877 dX7_burst_3 ?_
  refine p_callS (av := [.long _, .long _, .long _]) qS_RX7_67 rfl (Nat.le_of_ble_eq_true rfl) (Nat.le_of_ble_eq_true rfl) dX7_burst_6 (tX7_in (ok_b hF)) (fun r0 s2 hF => ?_)
  obtain ⟨r1, rfl, hF⟩ := hF
  refine p_if_ne (tgt := 15) dX7_burst_9 (by decide) (fun hc => ?_) (fun hc => ?_)
  · have hF := ok_f hc hF
    refine p_aload_n rfl dX7_burst_15 ?_
    refine p_getI qF_RX7_238 rfl rfl dX7_burst_16 ?_
    refine p_if_ne (tgt := 25) dX7_burst_19 (by decide) (fun hc => ?_) (fun hc => ?_)
    · have hF := ok_f hc hF
      refine p_iconst (v := 0) (by decide) dX7_burst_25 ?_
      refine p_istore_n (Nat.le_of_ble_eq_true rfl) rfl dX7_burst_26 ?_
      refine p_iconst (v := 1) (by decide) dX7_burst_27 ?_
      refine p_istore_n (Nat.le_of_ble_eq_true rfl) rfl dX7_burst_28 ?_
      refine p_lv [0, 1, 2, 3] rfl (l_X7_burst_29 ?_ 200 _ _ _ _ hF)
      intro w11_2 s12 hF
      refine p_iload_n rfl dX7_burst_86 ?_
      exact p_iret rfl dX7_burst_87 (ok_r (j := jI) hF)
    · have hF := ok_t hc hF
      refine p_bipush (v := -3) (by decide) dX7_burst_22 ?_
      exact p_iret rfl dX7_burst_24 (ok_r (j := jI) hF)
  · have hF := ok_t hc hF
    refine p_bipush (v := -2) (by decide) dX7_burst_12 ?_
    exact p_iret rfl dX7_burst_14 (ok_r (j := jI) hF)
theorem b_X7_shape_100 {d : Nat} (hd : 2 ≤ d) {Q : Option Value → Hp → Prop}  (vk0 : Int32) (sg : Hp) (hF : ok jI (B_X7_shape_100  vk0 sg) Q) : pw tM (d + 1) mX7_shape 100 [] [.int vk0] sg Q := by
  unfold B_X7_shape_100 at hF
  exact p_iret rfl dX7_shape_100 (ok_r (j := jI) hF)
theorem b_X7_shape_37 {d : Nat} (hd : 2 ≤ d) {Q : Option Value → Hp → Prop}  (v1 : Int32) (v2 : Int32) (sg : Hp) (hF : ok jI (B_X7_shape_37  v1 v2 sg) Q) : pw tM (d + 1) mX7_shape 37 [(0, .ref 300), (1, .int v1), (2, .int v2)] [] sg Q := by
  unfold B_X7_shape_37 at hF
  refine p_aload_n rfl dX7_shape_37 ?_
  refine p_getI qF_RX7_238 rfl rfl dX7_shape_38 ?_
  refine p_if_ne (tgt := 47) dX7_shape_41 (by decide) (fun hc => ?_) (fun hc => ?_)
  · have hF := ok_f hc hF
    refine p_aload_n rfl dX7_shape_47 ?_
    refine p_iconst (v := 2) (by decide) dX7_shape_48 ?_
    refine p_bipush (v := 88) (by decide) dX7_shape_49 ?_
    refine p_iload_n rfl dX7_shape_51 ?_
    refine p_bipush (v := 89) (by decide) dX7_shape_52 ?_
    refine p_callV (c0 := 300) (av := [.int _, .int _, .int _, .int _]) qV_RX7_157 rfl rfl rfl rfl (Nat.le_of_ble_eq_true rfl) (Nat.le_of_ble_eq_true rfl) dX7_shape_54 (tX7_layBoth (by omega) (ok_b hF)) (fun r0 s6 hF => ?_)
    obtain ⟨r5, rfl, hF⟩ := hF
    refine p_iload_n rfl dX7_shape_57 ?_
    refine p_if_ne (tgt := 72) dX7_shape_58 (by decide) (fun hc => ?_) (fun hc => ?_)
    · have hF := ok_f hc hF
      refine p_iload_n rfl dX7_shape_72 ?_
      refine p_iconst (v := 1) (by decide) dX7_shape_73 ?_
      refine p_icmp_ne (tgt := 90) dX7_shape_74 (by decide) (fun hc => ?_) (fun hc => ?_)
      · have hF := ok_f hc hF
        refine p_aload_n rfl dX7_shape_90 ?_
        refine p_bipush (v := 89) (by decide) dX7_shape_91 ?_
        refine p_iload_n rfl dX7_shape_93 ?_
        refine p_bipush (v := 100) (by decide) dX7_shape_94 ?_
        refine p_isub dX7_shape_96 ?_
        refine p_callV (c0 := 300) (av := [.int _, .int _]) qV_RX7_108 rfl rfl rfl rfl (Nat.le_of_ble_eq_true rfl) (Nat.le_of_ble_eq_true rfl) dX7_shape_97 (tX7_of (ok_b hF)) (fun r0 s8 hF => ?_)
        obtain ⟨r7, rfl, hF⟩ := hF
        exact p_lv [] rfl (b_X7_shape_100 hd  _ _ hF)
      · have hF := ok_t hc hF
        refine p_aload_n rfl dX7_shape_77 ?_
        refine p_bipush (v := 88) (by decide) dX7_shape_78 ?_
        refine p_bipush (v := 89) (by decide) dX7_shape_80 ?_
        refine p_bipush (v := 40) (by decide) dX7_shape_82 ?_
        refine p_callV (c0 := 300) (av := [.int _, .int _, .int _]) qV_RX7_182 rfl rfl rfl rfl (Nat.le_of_ble_eq_true rfl) (Nat.le_of_ble_eq_true rfl) dX7_shape_84 (tX7_waitOf (by omega) (ok_b hF)) (fun r0 s10 hF => ?_)
        obtain ⟨r9, rfl, hF⟩ := hF
        refine p_goto (tgt := 100) dX7_shape_87 (by decide) ?_
        exact p_lv [] rfl (b_X7_shape_100 hd  _ _ hF)
    · have hF := ok_t hc hF
      refine p_aload_n rfl dX7_shape_61 ?_
      refine p_bipush (v := 88) (by decide) dX7_shape_62 ?_
      refine p_bipush (v := 89) (by decide) dX7_shape_64 ?_
      refine p_callV (c0 := 300) (av := [.int _, .int _]) qV_RX7_185 rfl rfl rfl rfl (Nat.le_of_ble_eq_true rfl) (Nat.le_of_ble_eq_true rfl) dX7_shape_66 (tX7_heapOf (by omega) (ok_b hF)) (fun r0 s12 hF => ?_)
      obtain ⟨r11, rfl, hF⟩ := hF
      refine p_goto (tgt := 100) dX7_shape_69 (by decide) ?_
      exact p_lv [] rfl (b_X7_shape_100 hd  _ _ hF)
  · have hF := ok_t hc hF
    refine p_bipush (v := -3) (by decide) dX7_shape_44 ?_
    exact p_iret rfl dX7_shape_46 (ok_r (j := jI) hF)
theorem tX7_shape {d : Nat} (hd : 3 ≤ d) {Q : Option Value → Hp → Prop} {a1 : Int32} {a2 : Int32} {sg : Hp} (hF : ok jI (fX7_shape a1 a2 sg) Q) : pw tM d mX7_shape 0 (lv_args 0 [.ref 300, .int a1, .int a2]) [] sg Q := by
  unfold fX7_shape at hF
  obtain ⟨d, rfl⟩ : ∃ e, d = e + 1 := ⟨d - 1, by omega⟩
  have hd : 2 ≤ d := by omega
  show pw _ _ _ _ [(0, .ref 300), (1, .int a1), (2, .int a2)] [] _ _
  refine p_aload_n rfl dX7_shape_0 ?_
  refine p_iload_n rfl dX7_shape_1 ?_
  refine p_callV (c0 := 300) (av := [.int _]) qV_RX7_161 rfl rfl rfl rfl (Nat.le_of_ble_eq_true rfl) (Nat.le_of_ble_eq_true rfl) dX7_shape_2 (tX7_noStair (by omega) (ok_b hF)) (fun r0 s2 hF => ?_)
  obtain ⟨r1, rfl, hF⟩ := hF
  refine p_if_eq (tgt := 10) dX7_shape_5 (by decide) (fun hc => ?_) (fun hc => ?_)
  · have hF := ok_t hc hF
    refine p_iload_n rfl dX7_shape_10 ?_
    refine p_i2l dX7_shape_11 ?_
    refine p_lconst (v := 0) (by decide) dX7_shape_12 ?_
    refine p_lconst (v := 1) (by decide) dX7_shape_13 ?_
    refine p_callS (av := [.long _, .long _, .long _]) qS_RX7_67 rfl (Nat.le_of_ble_eq_true rfl) (Nat.le_of_ble_eq_true rfl) dX7_shape_14 (tX7_in (ok_b hF)) (fun r0 s4 hF => ?_)
    obtain ⟨r3, rfl, hF⟩ := hF
    refine p_if_ne (tgt := 37) dX7_shape_17 (by decide) (fun hc => ?_) (fun hc => ?_)
    · have hF := ok_f hc hF
      exact p_lv [0, 1, 2] rfl (b_X7_shape_37 hd  _ _ _ hF)
    · have hF := ok_t hc hF
      refine p_iload_n rfl dX7_shape_20 ?_
      refine p_i2l dX7_shape_21 ?_
      refine p_ldc2 wd_1100 dX7_shape_22 ?_
      refine p_ldc2 wd_1101 dX7_shape_25 ?_
      refine p_callS (av := [.long _, .long _, .long _]) qS_RX7_67 rfl (Nat.le_of_ble_eq_true rfl) (Nat.le_of_ble_eq_true rfl) dX7_shape_28 (tX7_in (ok_b hF)) (fun r0 s14 hF => ?_)
      obtain ⟨r13, rfl, hF⟩ := hF
      refine p_if_ne (tgt := 37) dX7_shape_31 (by decide) (fun hc => ?_) (fun hc => ?_)
      · have hF := ok_f hc hF
        exact p_lv [0, 1, 2] rfl (b_X7_shape_37 hd  _ _ _ hF)
      · have hF := ok_t hc hF
        refine p_bipush (v := -2) (by decide) dX7_shape_34 ?_
        exact p_iret rfl dX7_shape_36 (ok_r (j := jI) hF)
  · have hF := ok_f hc hF
    refine p_iconst (v := -1) (by decide) dX7_shape_8 ?_
    exact p_iret rfl dX7_shape_9 (ok_r (j := jI) hF)
