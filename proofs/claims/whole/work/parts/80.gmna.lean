/-! the rule for new int[n][k]; what a new pair's cells hold -/
theorem g_mna {M : Mth} {p : Program} {l : Launch} {e : Env} {R : Room} {s : State} {m : MethodId} {args : Array Value} {below : List Frame} {meth : Method} {c : Code} {D : va_G} {cI cQ : ClassId} {A : Nat → Prop} {Z : State → Prop} {X : List (Nat × Nat × List Value)} {ad : Nat → Nat} {tb : Sd} {mc ms pc : Nat} {lv : List (Nat × Value)} {st : List Value} {sg : Hp} {c0 h0 : Nat} (hc : cxt M p s m args meth c D cI cQ) (ho : ovr s) (hA : ∀ q : Nat, s.heap.size ≤ q → A q) (c1 b1 N K : Nat) {n k : Int32} {idx : Nat} (hlk : Cond.classLink M.1.cls idx ("[" ++ (FieldType.array .int).toString) ∈ gtb) (h0e : ad c0 = h0) (hne : (c1 :: (List.range N).map (fun i => b1 + i)).contains c0 = false) (hc1 : c1 < b1) (hf : frs (c1 :: (List.range N).map (fun i => b1 + i)) X tb lv st = true) (hz : ∀ i j, i < N → sg (b1 + i) j = 0) (hn : ¬ n < 0) (hk : ¬ k < 0) (hN : n.toNatClampNeg = N) (hK : k.toNatClampNeg = K) (hb1 : N * 4 ≤ 536870912) (hb2 : K * 4 ≤ 536870912) (hcells : mc + (1 + N) ≤ R.cells) (hslots : ms + (N + N * K) ≤ R.slots) (hd : decode M.2.1 pc = .ok (.multianewarray idx 2, 4)) (kk : ∀ ad2 : Nat → Nat, ad2 c0 = h0 → gw M p l e R s m args below meth c D cI cQ A Z X ad2 (tb ++ ((c1, .inr (.inl (N, b1))) :: (List.range N).map (fun i => (b1 + i, .inl K)))) (mc + 1 + N) (ms + N + N * K) (pc + 4) lv (.ref c1 :: st) sg) : gw M p l e R s m args below meth c D cI cQ A Z X ad tb mc ms pc lv (.int k :: .int n :: st) sg := by
  intro H locs ls hP hD hS hl
  refine w_mna hc.1 hc.2.1 hc.2.2.2.2.2.1 (hc.2.2.2.2.2.2.1 _ hlk) (over_moved (Vm.Alike.refl s.vm) ho) (hc.2.2.2.2.2.2.1 _ wo_arr) hn hk hN hK hb1 hb2 hcells hslots hd (fun cA comp H1 locs1 q1 q2 q3 q4 q5 q6 q7 => ?_)
  have e1 : s.vm.findClass ("[" ++ FieldType.int.toString) = some cI := (hc.2.2.2.2.2.2.2.1.2 0 (cI, .int) rfl).2
  have e2 : s.vm.findClass ("[" ++ (FieldType.array .int).toString) = some cQ := (hc.2.2.2.2.2.2.2.1.2 1 (cQ, .array .int) rfl).2
  have e3 : cA = cQ := Option.some.inj (q1.symm.trans e2)
  have e4 : comp = cI := Option.some.inj (q2.symm.trans e1)
  rw [e3] at q5
  rw [e4] at q6
  generalize hh : H.size = h at q3 q4 q5 q6 q7 ⊢
  obtain ⟨ad2, had2⟩ : ∃ f : Nat → Nat, f = fun b => if b = c1 then h else if b1 ≤ b ∧ b < b1 + N then h + 1 + (b - b1) else ad b := ⟨_, rfl⟩
  have a1 : ad2 c1 = h := by rw [had2]; exact if_pos rfl
  have a2 : ∀ i, i < N → ad2 (b1 + i) = h + 1 + i := fun i hi => by
    rw [had2]
    show (if b1 + i = c1 then h else if b1 ≤ b1 + i ∧ b1 + i < b1 + N then h + 1 + (b1 + i - b1) else ad (b1 + i)) = h + 1 + i
    rw [if_neg (by omega), if_pos (by omega)]
    omega
  have hag : ∀ b, b ∉ (c1 :: (List.range N).map (fun i => b1 + i)) → ad2 b = ad b := fun b hb => by
    rw [had2]
    show (if b = c1 then h else if b1 ≤ b ∧ b < b1 + N then h + 1 + (b - b1) else ad b) = ad b
    rw [if_neg (fun z => hb (by rw [z]; exact List.mem_cons_self)), if_neg (fun z => hb (List.mem_cons_of_mem _ (List.mem_map.mpr ⟨b - b1, List.mem_range.mpr (by omega), by omega⟩)))]
  obtain ⟨f1, f2, f3, f4⟩ := frs_ag hf hag
  have hk0 : ad2 c0 = h0 := by
    rw [hag c0 (fun z => by
      have : (c1 :: (List.range N).map (fun i => b1 + i)).contains c0 = true := List.contains_iff_mem.mpr z
      rw [hne] at this
      cases this)]
    exact h0e
  have hP0 : va_P D vwCl (rawW ad X ++ wld cI cQ ad tb sg) H1 := hP.kept (fun k9 q hq => q4 q.1 (by rw [← hh]; exact (hP k9 q hq).lt))
  have hP1 : va_P D vwCl (wld cI cQ ad2 ((c1, .inr (.inl (N, b1))) :: (List.range N).map (fun i => (b1 + i, .inl K))) sg) H1 := wld_P.2 (fun q hq => by
    rcases List.mem_cons.mp hq with rfl | hq
    · show H1[ad2 c1]? = some (vp_cell cQ (N, .inr (.inr (.inr (.inr (fun i => some (ad2 (b1 + i))))))))
      rw [a1, q5, vp_cell_q]
      refine congrArg some (arrV_cg (fun j hj => ?_))
      rw [if_pos hj, a2 j hj]
      rfl
    · obtain ⟨i, hi, rfl⟩ := List.mem_map.mp hq
      have hi := List.mem_range.mp hi
      show H1[ad2 (b1 + i)]? = some (vp_cell cI (K, .inl (sg (b1 + i))))
      rw [a2 i hi, q6 i hi, vp_cell_i]
      refine congrArg some (arrV_cg (fun j hj => ?_))
      rw [hz i j hi])
  have hmap : ((c1, .inr (.inl (N, b1))) :: (List.range N).map (fun i => (b1 + i, .inl K)) : Sd).map (fun q => ad2 q.1) = h :: (List.range N).map (fun i => h + 1 + i) := by
    rw [List.map_cons, List.map_map, a1]
    refine congrArg (List.cons h) (List.map_congr_left (fun i hi => ?_))
    exact a2 i (List.mem_range.mp hi)
  have hD1 : va_D A ((rawW ad X ++ wld cI cQ ad tb sg) ++ wld cI cQ ad2 ((c1, .inr (.inl (N, b1))) :: (List.range N).map (fun i => (b1 + i, .inl K))) sg) := by
    have hd0 := vaD_iff.1 hD
    have hlt : ∀ a, a ∈ (rawW ad X ++ wld cI cQ ad tb sg).map Prod.fst → a < h := fun a ha => by
      obtain ⟨q, hq, rfl⟩ := List.mem_map.mp ha
      rw [← hh]
      exact (vaP_iff.1 hP q hq).lt
    refine vaD_iff.2 ⟨?_, fun a ha => ?_⟩
    · rw [List.map_append, List.nodup_append, wld_f, hmap]
      refine ⟨hd0.1, List.nodup_cons.mpr ⟨fun z => ?_, List.pairwise_map.mpr (List.nodup_range.imp (fun {a b} h1 h2 => h1 (by omega)))⟩, fun a ha b hb z => ?_⟩
      · obtain ⟨i, -, hi⟩ := List.mem_map.mp z
        omega
      · have := hlt a ha
        rcases List.mem_cons.mp hb with hb | hb
        · omega
        · obtain ⟨i, -, hi⟩ := List.mem_map.mp hb
          omega
    · rw [List.map_append, wld_f, hmap] at ha
      rcases List.mem_append.mp ha with ha | ha
      · exact hd0.2 a ha
      · have hle : h ≤ a := by
          rcases List.mem_cons.mp ha with hb | hb
          · omega
          · obtain ⟨i, -, hi⟩ := List.mem_map.mp hb
            omega
        exact hA a (Nat.le_trans hS.1 (by rw [hh]; exact hle))
  obtain ⟨g1, g2⟩ := ext2 f1 f2 (hP0.app hP1) hD1 hP1 (wld_f).symm
  have hS1 : va_S A s.heap H1 locs1 := ⟨Nat.le_trans hS.1 (by rw [q3, hh]; omega), fun q z1 z2 => by
    rw [q4 q (by rw [← hh]; exact Nat.lt_of_lt_of_le z1 hS.1)]
    exact hS.2.1 q z1 z2, fun q hq => by
    rcases q7 q hq with z | z
    · exact hS.2.2 q z
    · rw [z]
      exact hA h (by rw [← hh]; exact hS.1)⟩
  have KK2 := kk ad2 hk0 H1 locs1 ls g1 g2 hS1 (by rw [f3]; exact hl)
  have e5 : (Value.ref c1 :: st).map (trv ad2) = .ref h :: st.map (trv ad) := by
    rw [List.map_cons, f4]
    show Value.ref (ad2 c1) :: _ = _
    rw [a1]
  rw [e5] at KK2
  exact KK2
def isZ (b : Nat) : Bool := !(b == 10) && !(b == 311) && !(b == 25) && !(b == 320) && !(b == 5)
theorem ini_z {b : Nat} (h : isZ b = true) : ini b = fun _ => 0 := by
  unfold isZ at h
  simp only [Bool.and_eq_true, Bool.not_eq_true', beq_eq_false_iff_ne, ne_eq] at h
  obtain ⟨⟨⟨⟨h1, h2⟩, h3⟩, h4⟩, h5⟩ := h
  funext j
  unfold ini
  rw [if_neg (by omega), if_neg (by omega), if_neg (by omega)]
theorem rq_all {tb : Sd} {sg : Hp} (sp : List (Nat × Nat)) (h1 : ∀ b j, (sp.map Prod.fst).contains b = false → sg b j = 0) (h2 : ∀ b n, (b, n) ∈ sp → ∀ j, j < n → sg b j = ini b j) (hall : tb.all (fun q => (isZ q.1 && !(sp.map Prod.fst).contains q.1) || (match q.2 with
  | .inl n => sp.contains (q.1, n)
  | _ => false)) = true) : ∀ q, q ∈ tb → rq q (sg q.1) (ini q.1) := fun q hq => by
  have h := List.all_eq_true.mp hall q hq
  rcases Bool.or_eq_true_iff.mp h with h | h
  · obtain ⟨z1, z2⟩ := Bool.and_eq_true_iff.mp h
    have z2 : (sp.map Prod.fst).contains q.1 = false := by simpa using z2
    have e : sg q.1 = ini q.1 := by
      rw [ini_z z1]
      funext j
      exact h1 q.1 j z2
    rw [e]
    exact rq_rf
  · obtain ⟨b, sh⟩ := q
    rcases sh with n | z | z
    · exact fun j hj => h2 b n (by simpa using h) j hj
    · cases h
    · cases h
