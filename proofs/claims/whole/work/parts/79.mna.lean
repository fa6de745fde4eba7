/-! new int[n][k]: the outer row, then its rows one behind another -/
theorem arrV_c2 {cA : ClassId} {n : Nat} {f g : Nat → Value} (h : ∀ j, j < n → f j = g j) : arrV cA n f = arrV cA n g := by
  unfold arrV
  have e : (Array.ofFn (n := n) fun j => f j.val) = Array.ofFn (n := n) fun j => g j.val := by
    congr 1
    funext j
    exact h j.val j.isLt
  rw [e]
/-- the outer row when i of its rows are there -/
def mo (cA : ClassId) (N h i : Nat) : Cell := arrV cA N (fun j => if j < i then .ref (h + 1 + j) else .null)
/-- one of its rows -/
def mi (comp : ClassId) (K : Nat) : Cell := arrV comp K (fun _ => .int 0)
def mkS (cA comp : ClassId) (N K : Nat) (s : State) : Nat → State
  | 0 => s.pushCell (mo cA N s.heap.size 0)
  | i + 1 => ((mkS cA comp N K s i).pushCell (mi comp K)).setCell s.heap.size (mo cA N s.heap.size (i + 1))
section MNA
variable {cA comp : ClassId} {N K h i : Nat} {s : State}
theorem mo_step : (mo cA N h i).setSlot i (.ref (h + 1 + i)) = mo cA N h (i + 1) := by
  unfold mo
  rw [arrV_store]
  refine arrV_c2 (fun j _ => ?_)
  unfold updV
  by_cases e : j = i
  · subst e
    simp
  · by_cases q : j < i
    · simp [e, q, Nat.lt_succ_of_lt q]
    · simp [e, q, show ¬ j < i + 1 by omega]
theorem mo_size : (mo cA N h i).slots.size = N := arrV_size _ _ _
theorem mi_size : (mi comp K).slots.size = K := arrV_size _ _ _
theorem mk_facts : ∀ i : Nat, (mkS cA comp N K s i).heap.size = s.heap.size + 1 + i ∧ (mkS cA comp N K s i).heap[s.heap.size]? = some (mo cA N s.heap.size i) ∧ (mkS cA comp N K s i).vm = s.vm ∧ (mkS cA comp N K s i).slotsUsed = s.slotsUsed + N + i * K
  | 0 => ⟨by simp [mkS], by simp [mkS], rfl, by simp [mkS, mo_size]⟩
  | i + 1 => by
    obtain ⟨a, b, c, u⟩ := mk_facts i
    have hb : ((mkS cA comp N K s i).pushCell (mi comp K)).heap[s.heap.size]? = some (mo cA N s.heap.size i) := by
      have hlt : s.heap.size < (mkS cA comp N K s i).heap.size := by rw [a]; omega
      rw [State.heap_pushCell_of_lt (h := hlt)]
      exact b
    refine ⟨by simp [mkS, State.setCell, a]; omega, State.heap_setCell_self hb, by simp [mkS, c], ?_⟩
    simp [mkS, u, mi_size, Nat.succ_mul]
    omega
theorem mk_old {a : Addr} (ha : a < s.heap.size) : ∀ i : Nat, (mkS cA comp N K s i).heap[a]? = s.heap[a]?
  | 0 => State.heap_pushCell_of_lt _ _ ha
  | i + 1 => by
    have hs := (mk_facts (cA := cA) (comp := comp) (N := N) (K := K) (s := s) i).1
    show (((mkS cA comp N K s i).pushCell (mi comp K)).setCell s.heap.size _).heap[a]? = _
    have hlt : a < (mkS cA comp N K s i).heap.size := by rw [hs]; exact Nat.lt_of_lt_of_le ha (by omega)
    rw [State.heap_setCell_other (Nat.ne_of_gt ha), State.heap_pushCell_of_lt (h := hlt)]
    exact mk_old ha i
theorem mk_row : ∀ i j : Nat, j < i → (mkS cA comp N K s i).heap[s.heap.size + 1 + j]? = some (mi comp K)
  | 0, _, q => absurd q (Nat.not_lt_zero _)
  | i + 1, j, q => by
    have hs := (mk_facts (cA := cA) (comp := comp) (N := N) (K := K) (s := s) i).1
    show (((mkS cA comp N K s i).pushCell (mi comp K)).setCell s.heap.size _).heap[s.heap.size + 1 + j]? = _
    rw [State.heap_setCell_other (show s.heap.size ≠ s.heap.size + 1 + j by omega)]
    rcases Nat.lt_or_ge j i with z | z
    · have hlt : s.heap.size + 1 + j < (mkS cA comp N K s i).heap.size := by rw [hs]; omega
      rw [State.heap_pushCell_of_lt (h := hlt)]
      exact mk_row i j z
    · rw [show s.heap.size + 1 + j = (mkS cA comp N K s i).heap.size by rw [hs]; omega]
      exact State.heap_pushCell_size _ _
theorem mk_top (f : JFrame) : ∀ i : Nat, mkS cA comp N K (s.setTop f) i = (mkS cA comp N K s i).setTop f
  | 0 => rfl
  | i + 1 => by simp only [mkS, mk_top f i, State.heap_setTop, State.pushCell_setTop, State.setCell_setTop]
end MNA
section MNW
variable {E : CtlPost} {e : Env} {d : Bool} {acts : List Action} {s : State}
/-- one row by itself -/
theorem wp_row {cl cm : ClassId} {k : Class} {ty : FieldType} {n : Nat} {v : Value} (hk : s.vm.classes[cl]? = some k) (hkind : k.kind = .array cm ty) (hl : ¬ n > e.platform.arrayLengthLimit) (hb : ¬ n * componentBytes ty > e.platform.maxHeapBytes) (hfit : fits ty v = true) (h1 : s.heap.size < e.platform.maxCells) (h2 : s.slotsUsed + n ≤ e.platform.maxSlots) {Q : Addr → Pre} (hq : ∀ acts' : List Action, Q s.heap.size d acts' (s.pushCell (arrV cl n (fun _ => v)))) : wp (Jvm.newArray cl n v) Q E e d acts s := by
  have hfs : ∀ (i : Nat) (x : Value), (Array.replicate n v)[i]? = some x → s.fitsSlot cl .none i x = true := by
    intro i x hx
    rw [Array.getElem?_replicate] at hx
    split at hx
    · cases hx
      simp [State.fitsSlot, State.slotType?, hk, hkind, hfit]
    · cases hx
  have hm : ¬ n > e.platform.maxSlots := by omega
  simp only [Jvm.newArray, Jvm.arrayFits, wp_bind', Jvm.W.ask, Jvm.W.ite, hl, if_false, wp_pure', Jvm.W.theClass, hk, hkind, hb, Jvm.W.alloc, Jvm.W.stop, Option.some.injEq, exists_eq_left', Array.size_replicate, hm]
  have h9 := hq (allocActs (Array.replicate n v) s.heap.size acts)
  rw [← arrV_new] at h9
  exact ⟨h1, h2, hfs, h9⟩
/-- the model's own walk over the two lengths -/
theorem wp_rows {cA comp cc : ClassId} {k kc : Class} {n m : Int32} {N K : Nat} (hN : n.toNatClampNeg = N) (hK : m.toNatClampNeg = K) (hk : s.vm.classes[cA]? = some k) (hkind : k.kind = .array comp (.array .int)) (hkc : s.vm.classes[comp]? = some kc) (hkindc : kc.kind = .array cc .int) (hn : ¬ n < 0) (hm : ¬ m < 0) (hl1 : ¬ N > e.platform.arrayLengthLimit) (hb1 : ¬ N * 4 > e.platform.maxHeapBytes) (hl2 : ¬ K > e.platform.arrayLengthLimit) (hb2 : ¬ K * 4 > e.platform.maxHeapBytes) (hc : s.heap.size + (1 + N) ≤ e.platform.maxCells) (hs : s.slotsUsed + (N + N * K) ≤ e.platform.maxSlots) {Q : Addr → Pre} (hq : ∀ (d' : Bool) (acts' : List Action), Q s.heap.size d' acts' (mkS cA comp N K s N)) : wp (multianewarray.make cA [n, m]) Q E e d acts s := by
  have hfind : ([m].find? (· < 0)) = none := by simp [hm]
  rw [multianewarray.make]
  simp only [wp_bind', Jvm.W.ite, hn, if_false, wp_pure', Jvm.W.theClass, hk, hkind, Option.some.injEq, exists_eq_left']
  rw [hN]
  refine wp_row hk hkind hl1 hb1 rfl (by omega) (by omega) (fun acts' => ?_)
  have e0 : arrV cA N (fun _ => Value.null) = mo cA N s.heap.size 0 := arrV_c2 (fun j _ => rfl)
  rw [e0]
  simp only [hfind]
  rw [ite_self, wp_bind', Std.Legacy.Range.forIn_eq_forIn_range']
  have hsz : ([:N] : Std.Legacy.Range).size = N := by simp [Std.Legacy.Range.size]
  rw [hsz]
  show wp (forIn (List.range' 0 N 1) PUnit.unit _) _ E e d acts' _
  refine wp_forIn_inv (fun rest s' => ∃ i, i ≤ N ∧ rest = List.range' i (N - i) ∧ s' = mkS cA comp N K s i) _ _ ⟨0, Nat.zero_le _, rfl, rfl⟩ ?_ ?_
  · rintro x rest s' d' acts2 Q' ⟨i, hi, hl, rfl⟩ hnext
    have hlt : i < N := by
      rcases Nat.lt_or_ge i N with z | z
      · exact z
      · rw [show N - i = 0 by omega] at hl
        cases hl
    rw [show N - i = (N - (i + 1)) + 1 by omega, List.range'_succ] at hl
    obtain ⟨rfl, hrest⟩ := List.cons.inj hl
    obtain ⟨f1, f2, f3, f4⟩ := mk_facts (cA := cA) (comp := comp) (N := N) (K := K) (s := s) x
    have hmul : x * K + K ≤ N * K := by
      have := Nat.mul_le_mul_right K (show x + 1 ≤ N from hlt)
      rw [Nat.succ_mul] at this
      exact this
    simp only [wp_bind']
    rw [multianewarray.make]
    simp only [wp_bind', Jvm.W.ite, hm, if_false, wp_pure', Jvm.W.theClass, f3, hkc, hkindc, Option.some.injEq, exists_eq_left']
    rw [hK]
    refine wp_row (by rw [f3]; exact hkc) hkindc hl2 hb2 rfl (by rw [f1]; omega) (by rw [f4]; omega) (fun acts3 => ?_)
    simp only [wp_bind', Jvm.W.writeLoc, wp_pure']
    have hlt2 : s.heap.size < (mkS cA comp N K s x).heap.size := by rw [f1]; omega
    refine ⟨mo cA N s.heap.size x, by rw [State.heap_pushCell_of_lt (h := hlt2)]; exact f2, (fun z => by cases z), by rw [mo_size]; exact hlt, ?_, hnext _ _ _ ⟨x + 1, hlt, hrest, ?_⟩⟩
    · show State.fitsSlot _ cA VmData.none x _ = true
      simp [State.fitsSlot, State.slotType?, f3, hk, hkind]
      rfl
    · rw [f1, mo_step]
      rfl
  · rintro s' d' acts2 ⟨i, hi, hl, rfl⟩
    have hiN : i = N := by
      rcases Nat.lt_or_ge i N with z | z
      · rw [show N - i = (N - (i + 1)) + 1 by omega, List.range'_succ] at hl
        cases hl
      · omega
    subst hiN
    simp only [wp_pure']
    exact hq _ _
end MNW
section MNV
variable {p : Program} {l : Launch} {e : Env} {R : Room} {s : State} {m : MethodId} {args : Array Value} {below : List Frame} {meth : Method} {c : Code} {H : Heap} {locs : List Loc} {cells slots : Nat} {Q : State → Prop} {pc : Nat} {ls : Array Slot} {rest : List Value}
theorem mk_stand {T : State} {cA comp : ClassId} {N K : Nat} (X : Stand p l e R s m args below meth c T locs cells slots) : ∀ i : Nat, ∃ locs1 : List Loc, (∀ q, q ∈ locs1 → q ∈ locs ∨ q.base = T.heap.size) ∧ Stand p l e R s m args below meth c (mkS cA comp N K T i) locs1 (cells + 1 + i) (slots + N + i * K)
  | 0 => by
    have h := X.pushed (mo cA N T.heap.size 0)
    rw [mo_size] at h
    refine ⟨locs, fun q hq => Or.inl hq, ?_⟩
    rw [Nat.zero_mul]
    exact h
  | i + 1 => by
    obtain ⟨locs1, hl1, Xi⟩ := mk_stand (cA := cA) (comp := comp) (N := N) (K := K) X i
    obtain ⟨f1, f2, f3, f4⟩ := mk_facts (cA := cA) (comp := comp) (N := N) (K := K) (s := T) i
    have hlt : T.heap.size < (mkS cA comp N K T i).heap.size := by rw [f1]; omega
    have hcell : ((mkS cA comp N K T i).pushCell (mi comp K)).heap[T.heap.size]? = some (mo cA N T.heap.size i) := by
      rw [State.heap_pushCell_of_lt (h := hlt)]
      exact f2
    have h := (Xi.pushed (mi comp K)).stored hcell i (.ref (T.heap.size + 1 + i))
    rw [mi_size, mo_step] at h
    refine ⟨locs1 ++ [⟨T.heap.size, i⟩], fun q hq => ?_, ?_⟩
    · rcases List.mem_append.mp hq with z | z
      · exact hl1 q z
      · rw [List.mem_singleton] at z
        exact Or.inr (by rw [z])
    · rw [show slots + N + (i + 1) * K = slots + N + i * K + K by rw [Nat.succ_mul]; omega]
      exact h
theorem w_mna {cc : ByteArray} (hexec : p.tables.exec = Jvm.exec) (hb : c.code = cc) {own : String} {index : Nat} (hown : s.vm.findClass own = some m.cls) (hclink : (Cond.classLink own index ("[" ++ (FieldType.array .int).toString)).before args s = true) (hover : (Cond.arrayOver (.array .int)).before args s = true) (harr : (Cond.arrayClass .int).before args s = true) {n k : Int32} {N K : Nat} (hn : ¬ n < 0) (hk : ¬ k < 0) (hN : n.toNatClampNeg = N) (hK : k.toNatClampNeg = K) (hb1 : N * 4 ≤ 536870912) (hb2 : K * 4 ≤ 536870912) (hcells : cells + (1 + N) ≤ R.cells) (hslots : slots + (N + N * K) ≤ R.slots) (hdg : decode cc pc = .ok (.multianewarray index 2, 4))
    (kk : ∀ (cA comp : ClassId) (H1 : Heap) (locs1 : List Loc), s.vm.findClass ("[" ++ (FieldType.array .int).toString) = some cA → s.vm.findClass ("[" ++ FieldType.int.toString) = some comp → H1.size = H.size + 1 + N → (∀ q : Nat, q < H.size → H1[q]? = H[q]?) → H1[H.size]? = some (mo cA N H.size N) → (∀ j : Nat, j < N → H1[H.size + 1 + j]? = some (mi comp K)) → (∀ q, q ∈ locs1 → q ∈ locs ∨ q.base = H.size) → W p l e R s m args below meth c H1 locs1 (cells + 1 + N) (slots + N + N * K) Q (F0 m (pc + 4) ls (.ref H.size :: rest))) : W p l e R s m args below meth c H locs cells slots Q (F0 m pc ls (.int k :: .int n :: rest)) := by
  intro T hT X
  subst hT
  subst hb
  have hpl : e.platform.magicAccessors = ({} : Platform).magicAccessors := by rw [X.admits.platform]
  obtain ⟨comp, cA, kA, hcomp, -, hkA, hkindA, hnameA⟩ := arrayOverA_spec hover
  obtain ⟨comp2, kC, cc, hcomp2, hkC, hkindC⟩ := Cond.arrayClass_spec harr
  have ecomp : comp2 = comp := Option.some.inj (hcomp2.symm.trans hcomp)
  subst ecomp
  obtain ⟨c0, hfc0, hcl⟩ := Cond.classLink_spec hown hclink e.platform hpl
  cases hnameA.symm.trans hfc0
  obtain ⟨hg₁, hwarm₁, hready₁⟩ := State.classEntry (e := e) X.warmed hcl
  generalize T.vm.noted m.cls index (.cls cA) = vm₁ at hg₁ hwarm₁ hready₁
  have hal : s.vm.Alike vm₁ := hwarm₁.alike
  obtain ⟨kA₁, hkA₁, heA⟩ := hal.2.2 _ _ hkA
  obtain ⟨kC₁, hkC₁, heC⟩ := hal.2.2 _ _ hkC
  have hkindA₁ : kA₁.kind = .array comp2 (.array .int) := by rw [heA]; exact hkindA
  have hkindC₁ : kC₁.kind = .array cc .int := by rw [heC]; exact hkindC
  obtain ⟨hr1, hr2⟩ := X.roomAbove hcells hslots
  obtain ⟨locs1, hl1, XF⟩ := mk_stand (cA := cA) (comp := comp2) (N := N) (K := K) (X.noted hwarm₁) N
  obtain ⟨f1, f2, f3, f4⟩ := mk_facts (cA := cA) (comp := comp2) (N := N) (K := K) (s := T.setVm vm₁) N
  obtain ⟨t, a1, b1⟩ := kk cA comp2 (mkS cA comp2 N K (T.setVm vm₁) N).heap locs1 hnameA hcomp f1 (fun q hq => mk_old (s := T.setVm vm₁) hq N) f2 (fun j hj => mk_row (s := T.setVm vm₁) N j hj) hl1 _ rfl XF
  refine ⟨t, ?_, b1⟩
  have hlim1 : ¬ N > e.platform.arrayLengthLimit := by rw [Launch.admits_arrayLengthLimit X.admits]; omega
  have hlim2 : ¬ K > e.platform.arrayLengthLimit := by rw [Launch.admits_arrayLengthLimit X.admits]; omega
  have hhp1 : ¬ N * 4 > e.platform.maxHeapBytes := by rw [Launch.admits_maxHeapBytes X.admits]; omega
  have hhp2 : ¬ K * 4 > e.platform.maxHeapBytes := by rw [Launch.admits_maxHeapBytes X.admits]; omega
  have htop := X.here.top
  jvm_step X.here [hexec, show decode c.code (F0 m pc ls (.int k :: .int n :: rest)).pc = _ from hdg]
  simp only [multianewarray.sem, wp_bind', Jvm.W.resolveClassAt_links (State.method?_setTop (F0 m pc ls (.int k :: .int n :: rest)) htop) hg₁]
  rw [Jvm.W.popN, if_neg (by decide)]
  refine ⟨F0 m pc ls (.int k :: .int n :: rest), State.topJava?_setTop' (s := T.setVm vm₁) _ htop, [.int n, .int k], rest, rfl, rfl, ?_⟩
  simp only [List.mapM_cons, List.mapM_nil, wp_bind', wp_pure']
  refine wp_rows (N := N) (K := K) hN hK (k := kA₁) (kc := kC₁) (comp := comp2) (cc := cc) hkA₁ hkindA₁ hkC₁ hkindC₁ hn hk hlim1 hhp1 hlim2 hhp2 (by show T.heap.size + _ ≤ _; omega) (by show T.slotsUsed + _ ≤ _; omega) (fun d2 acts2 => ?_)
  have eS : ((T.setTop (F0 m pc ls (.int k :: .int n :: rest))).setVm vm₁).setTop { F0 m pc ls (.int k :: .int n :: rest) with stack := rest } = (T.setVm vm₁).setTop { F0 m pc ls (.int k :: .int n :: rest) with stack := rest } := by
    show ((T.setVm vm₁).setTop (F0 m pc ls (.int k :: .int n :: rest))).setTop _ = _
    rw [State.setTop_setTop]
  rw [eS, mk_top]
  simp only [wp_bind', Jvm.W.mark, Jvm.W.pushRef, State.topJava?_setTop' _ XF.here.top, Option.some.injEq, exists_eq_left', State.setTop_setTop, State.heap_setTop]
  intro acts3
  simp [jvm, XF.here.top]
  exact a1
end MNV
