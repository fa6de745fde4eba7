/-! rules for what makes cells -/
theorem wo_arr : Cond.arrayClass .int ∈ gtb := gm (List.mem_of_getElem? (i := 106) (by decide +kernel)) rfl
theorem wo_oi : Cond.instanceMethod objectInit ∈ gtb := gm (List.mem_of_getElem? (i := 84) (by decide +kernel)) rfl
theorem wo_oc : Cond.code objectInit ⟨#[0xb1]⟩ 1 none ∈ gtb := gm (List.mem_of_getElem? (i := 85) (by decide +kernel)) rfl
def ovr (U : State) : Prop := (Cond.arrayOver (.array .int)).before #[] U = true
theorem ovr.moved {u U : State} (h : u.vm.Alike U.vm) (hu : ovr u) : ovr U := over_moved h hu
section GR
variable {M : Mth} {p : Program} {l : Launch} {e : Env} {R : Room} {s : State} {m : MethodId} {args : Array Value} {below : List Frame} {meth : Method} {c : Code} {D : va_G} {cI cQ : ClassId} {A : Nat → Prop} {Z : State → Prop} {X : List (Nat × Nat × List Value)} {ad : Nat → Nat} {tb : Sd} {mc ms pc : Nat} {lv : List (Nat × Value)} {st : List Value} {sg : Hp} {c0 h0 : Nat}
theorem g_widen (mc2 ms2 : Nat) (h1 : mc ≤ mc2) (h2 : ms ≤ ms2) (k : gw M p l e R s m args below meth c D cI cQ A Z X ad tb mc2 ms2 pc lv st sg) : gw M p l e R s m args below meth c D cI cQ A Z X ad tb mc ms pc lv st sg := fun H locs ls hP hD hS hl => W.widen h1 h2 (k H locs ls hP hD hS hl)
theorem g_obj (hc : cxt M p s m args meth c D cI cQ) {idx x : Nat} (hlk : Cond.methodLink M.1.cls idx objectInit ∈ gtb) (hst : (st.map fun v => v.category).sum ≤ 8) (hf : 1 ≤ R.frames) (hlo : 20 ≤ R.locals) (hd : decode M.2.1 pc = .ok (.invokespecial idx, 3)) (k : gw M p l e R s m args below meth c D cI cQ A Z X ad tb mc ms (pc + 3) lv st sg) : gw M p l e R s m args below meth c D cI cQ A Z X ad tb mc ms pc lv (.ref x :: st) sg := by
  intro H locs ls hP hD hS hl
  have hr := lv_room (m := m) (pc := pc) (ls := ls) (rest := (.ref x :: st).map (trv ad)) (st := st.map (trv ad)) (by rw [cat_le]; exact hst)
  exact W.objInit hc.1 hc.2.1 hc.2.2.2.2.2.1 (hc.2.2.2.2.2.2.1 _ hlk) (hc.2.2.2.2.2.2.1 _ wo_oi) (hc.2.2.2.2.2.2.1 _ wo_oc) rfl (by rw [hc.2.2.1]; exact hl.1) rfl hd hf (by omega) (k H locs ls hP hD hS hl)
/-- a new row of ints -/
theorem g_newa (hc : cxt M p s m args meth c D cI cQ) (hA : ∀ q : Nat, s.heap.size ≤ q → A q) (c1 N : Nat) {n : Int32} (h0e : ad c0 = h0) (hne : (c0 == c1) = false) (hf : frs [c1] X tb lv st = true) (hz : ∀ j, sg c1 j = 0) (hn : ¬ n < 0) (hN : n.toNatClampNeg = N) (hb : N * 4 ≤ 536870912) (hcells : mc + 1 ≤ R.cells) (hslots : ms + N ≤ R.slots) (hd : decode M.2.1 pc = .ok (.newarray .int, 2)) (k : ∀ ad2 : Nat → Nat, ad2 c0 = h0 → gw M p l e R s m args below meth c D cI cQ A Z X ad2 (tb ++ [(c1, .inl N)]) (mc + 1) (ms + N) (pc + 2) lv (.ref c1 :: st) sg) : gw M p l e R s m args below meth c D cI cQ A Z X ad tb mc ms pc lv (.int n :: st) sg := by
  intro H locs ls hP hD hS hl
  refine va_newa (atype := .int) (ty := .int) hc.1 hc.2.1 (hc.2.2.2.2.2.2.1 _ wo_arr) rfl hc.2.2.2.2.2.2.2.1 hP hD hS hA (a0 := (N, .inl (fun _ => 0))) (fun cA => rfl) hn hN hb hcells hslots hd (fun q cA H1 hK1 hP1 hD1 hS1 => ?_)
  have e1 : s.vm.findClass ("[" ++ FieldType.int.toString) = some cA := (hK1.2 2 (cA, .int) rfl).2
  have e2 : s.vm.findClass ("[" ++ FieldType.int.toString) = some cI := (hc.2.2.2.2.2.2.2.1.2 0 (cI, .int) rfl).2
  have e3 : some cA = some cI := e1.symm.trans e2
  cases e3
  have hne2 : c0 ≠ c1 := by simpa using hne
  have hag : ∀ b, b ∉ [c1] → (fun b => if b = c1 then q else ad b) b = ad b := fun b hb => if_neg (fun z => hb (by rw [z]; exact List.mem_cons_self))
  obtain ⟨f1, f2, f3, f4⟩ := frs_ag hf hag
  have hq : (fun b => if b = c1 then q else ad b) c1 = q := if_pos rfl
  obtain ⟨g1, g2⟩ := ext2 (ad2 := fun b => if b = c1 then q else ad b) (t1 := [(c1, .inl N)]) f1 f2 hP1 hD1 (wld_P.2 (fun z hz2 => by
    rw [List.mem_singleton] at hz2
    subst hz2
    have h9 := vaP_iff.1 (vaP_r hP1) _ List.mem_cons_self
    have e9 : sg c1 = fun _ => 0 := funext hz
    show va_at D vwCl ((fun b => if b = c1 then q else ad b) c1, .inl (cI, N, .inl (sg c1))) H1
    rw [e9, hq]
    exact h9)) (by show [(fun b => if b = c1 then q else ad b) c1] = [q]; rw [hq])
  have K := k (fun b => if b = c1 then q else ad b) (by show (if c0 = c1 then q else ad c0) = h0; rw [if_neg hne2]; exact h0e) H1 locs ls g1 g2 hS1 (by rw [f3]; exact hl)
  have e5 : (Value.ref c1 :: st).map (trv (fun b => if b = c1 then q else ad b)) = .ref q :: st.map (trv ad) := by
    rw [List.map_cons, f4]
    show Value.ref ((fun b => if b = c1 then q else ad b) c1) :: _ = _
    rw [hq]
  rw [e5] at K
  exact K
/-- what is under construction: its fields -/
theorem g_getX (hc : cxt M p s m args meth c D cI cQ) {idx ci k0 : Nat} {q : vw_C} {vals : List Value} {v : Value} (hf : fok M.1.cls idx ci k0 q none) (hv : vals[k0]? = some v) (hd : decode M.2.1 pc = .ok (.getfield idx, 3)) (k : gw M p l e R s m args below meth c D cI cQ A Z [(c0, ci, vals)] ad tb mc ms (pc + 3) lv (v :: st) sg) : gw M p l e R s m args below meth c D cI cQ A Z [(c0, ci, vals)] ad tb mc ms pc lv (.ref c0 :: st) sg := by
  intro H locs ls hP hD hS hl
  obtain ⟨h1, h2, h3, h4⟩ := hf
  exact va_get hc.1 hc.2.1 hc.2.2.2.2.2.2.1 h3 hc.2.2.2.2.2.1 hc.2.2.2.2.2.2.2.1 hP 0 (fs := vals.map (trv ad)) rfl h1 k0 h2 (hc.2.2.2.2.2.2.1 _ h4) (fun _ h9 => h9) (by rw [List.getElem?_map, hv]; rfl) hd (k H locs ls hP hD hS hl)
/-- a store into a plain field -/
theorem g_putX (hc : cxt M p s m args meth c D cI cQ) {idx ci k0 : Nat} {q : vw_C} {vals : List Value} {v : Value} {ty : FieldType} (hf : fok M.1.cls idx ci k0 q none) (hg : fst k0 q ty) (hlt : k0 < vals.length) (hnr : ∀ ad : Nat → Nat, narrow ty (trv ad v) = trv ad v) (hft : ∀ ad : Nat → Nat, fits ty (trv ad v) = true) (hd : decode M.2.1 pc = .ok (.putfield idx, 3)) (k : gw M p l e R s m args below meth c D cI cQ A Z [(c0, ci, vals.set k0 v)] ad tb mc ms (pc + 3) lv st sg) : gw M p l e R s m args below meth c D cI cQ A Z [(c0, ci, vals)] ad tb mc ms pc lv (v :: .ref c0 :: st) sg := by
  intro H locs ls hP hD hS hl
  obtain ⟨h1, h2, h3, h4⟩ := hf
  obtain ⟨g1, g2, ty0, g3, g4⟩ := hg
  refine va_put hc.1 hc.2.1 hc.2.2.2.2.2.2.1 h3 ty0 g3 g4 hc.2.2.2.2.2.1 hc.2.2.2.2.2.2.2.1 hP hD hS 0 (fs := vals.map (trv ad)) rfl h1 k0 h2 (hc.2.2.2.2.2.2.1 _ h4) (fun _ h9 => h9) g1 g2 (hnr ad) (hft ad) (by rw [List.length_map]; exact hlt) hd (fun H2 locs2 hP2 hD2 hS2 => ?_)
  refine k H2 locs2 ls ?_ ?_ hS2 hl
  · show va_P D vwCl ((ad c0, .inr (ci, (vals.set k0 v).map (trv ad))) :: wld cI cQ ad tb sg) H2
    rw [List.map_set]
    exact hP2
  · show va_D A ((ad c0, .inr (ci, (vals.set k0 v).map (trv ad))) :: wld cI cQ ad tb sg)
    rw [List.map_set]
    exact hD2
/-- what a store into a final field wants -/
def fsF (own : String) (k : Nat) (q : vw_C) (ty : FieldType) : Prop := (q.2.1 k).2.2.2 = true ∧ (q.2.1 k).1 = own ∧ parseFieldDescriptor (q.2.1 k).2.2.1 = some ty ∧ ∃ ty0 : Nat → FieldType, (∀ k, k < q.2.2 → parseFieldDescriptor (q.2.1 k).2.2.1 = some (ty0 k)) ∧ (∀ a, a < q.2.2 → ∀ b, b < q.2.2 → a ≠ b → (q.2.1 a).2.1 ≠ (q.2.1 b).2.1)
theorem g_putF (hc : cxt M p s m args meth c D cI cQ) (hin : meth.name = "<init>") {idx ci k0 : Nat} {q : vw_C} {vals : List Value} {v : Value} {ty : FieldType} (hf : fok M.1.cls idx ci k0 q none) (hg : fsF M.1.cls k0 q ty) (hlt : k0 < vals.length) (hnr : ∀ ad : Nat → Nat, narrow ty (trv ad v) = trv ad v) (hft : ∀ ad : Nat → Nat, fits ty (trv ad v) = true) (hd : decode M.2.1 pc = .ok (.putfield idx, 3)) (k : gw M p l e R s m args below meth c D cI cQ A Z [(c0, ci, vals.set k0 v)] ad tb mc ms (pc + 3) lv st sg) : gw M p l e R s m args below meth c D cI cQ A Z [(c0, ci, vals)] ad tb mc ms pc lv (v :: .ref c0 :: st) sg := by
  intro H locs ls hP hD hS hl
  obtain ⟨h1, h2, h3, h4⟩ := hf
  obtain ⟨g1, g0, g2, ty0, g3, g4⟩ := hg
  refine va_putF hc.1 hc.2.1 hc.2.2.2.2.2.2.1 h3 ty0 g3 g4 hc.2.2.2.2.2.1 hc.2.2.2.2.2.2.2.1 hP hD hS 0 (fs := vals.map (trv ad)) rfl h1 k0 h2 (hc.2.2.2.2.2.2.1 _ h4) (fun _ h9 => h9) g1 hin g0 g2 (hnr ad) (hft ad) (by rw [List.length_map]; exact hlt) hd (fun H2 locs2 hP2 hD2 hS2 => ?_)
  refine k H2 locs2 ls ?_ ?_ hS2 hl
  · show va_P D vwCl ((ad c0, .inr (ci, (vals.set k0 v).map (trv ad))) :: wld cI cQ ad tb sg) H2
    rw [List.map_set]
    exact hP2
  · show va_D A ((ad c0, .inr (ci, (vals.set k0 v).map (trv ad))) :: wld cI cQ ad tb sg)
    rw [List.map_set]
    exact hD2
/-- a store into a row, beside an object under construction -/
theorem g_iast (hc : cxt M p s m args meth c D cI cQ) {x0 : Nat × Nat × List Value} {k0 c1 n : Nat} {i x : Int32} (hn : tb[k0]? = some (c1, .inl n)) (hin : vp_in i n) (hd : decode M.2.1 pc = .ok (.iastore, 1)) (k : gw M p l e R s m args below meth c D cI cQ A Z [x0] ad tb mc ms (pc + 1) lv st (up2 sg c1 i.toNatClampNeg x)) : gw M p l e R s m args below meth c D cI cQ A Z [x0] ad tb mc ms pc lv (.int x :: .int i :: .ref c1 :: st) sg := by
  intro H locs ls hP hD hS hl
  have e := wld_set (cI := cI) (cQ := cQ) (vaD_r hD) hn (upd (sg c1) i.toNatClampNeg x)
  refine va_iast hc.1 hc.2.1 hc.2.2.2.2.2.2.2.1 hP hD hS (k0 + 1) 0 (wld_at hn) rfl hin hd (fun H2 locs2 hP2 hD2 hS2 => ?_)
  refine k H2 locs2 ls ?_ ?_ hS2 hl
  · show va_P D vwCl (rawW ad [x0] ++ wld cI cQ ad tb (upC sg c1 _)) H2
    rw [← e]; exact hP2
  · show va_D A (rawW ad [x0] ++ wld cI cQ ad tb (upC sg c1 _))
    rw [← e]; exact hD2
/-- a new object, all its fields nothing yet -/
theorem g_new (hc : cxt M p s m args meth c D cI cQ) (hA : ∀ q : Nat, s.heap.size ≤ q → A q) (c1 ci : Nat) {idx N : Nat} {C : String} {T : u_T} (ty : Nat → FieldType) (vals : List Value) (hq : vwCl[ci]? = some (C, T, N)) (hlay : ∀ w ∈ u_ws C T N, w ∈ gtb) (hty : ∀ k, k < N → parseFieldDescriptor (T k).2.2.1 = some (ty k)) (hfs : ∀ j, j < N → defaultValue (ty j) = vp_V vals j) (hcl : ∀ ad : Nat → Nat, vals.map (trv ad) = vals) (hlk : Cond.classLink M.1.cls idx C ∈ gtb) (hins : Cond.instantiable C N ∈ gtb) (hini : Cond.initialized C ∈ gtb) (h0e : ad c0 = h0) (hne : (c0 == c1) = false) (hf : frs [c1] X tb lv st = true) (hcells : mc + 1 ≤ R.cells) (hslots : ms + N ≤ R.slots) (hd : decode M.2.1 pc = .ok (.new idx, 3)) (k : ∀ ad2 : Nat → Nat, ad2 c0 = h0 → gw M p l e R s m args below meth c D cI cQ A Z (X ++ [(c1, ci, vals)]) ad2 tb (mc + 1) (ms + N) (pc + 3) lv (.ref c1 :: st) sg) : gw M p l e R s m args below meth c D cI cQ A Z X ad tb mc ms pc lv st sg := by
  intro H locs ls hP hD hS hl
  refine va_new hc.1 hc.2.1 hc.2.2.2.2.2.2.1 hlay ty hty hc.2.2.2.2.2.1 (hc.2.2.2.2.2.2.1 _ hlk) (hc.2.2.2.2.2.2.1 _ hins) (hc.2.2.2.2.2.2.1 _ hini) hc.2.2.2.2.2.2.2.1 hP hD hS hA hq (fs := vals) hfs hcells hslots hd (fun q H1 hP1 hD1 hS1 => ?_)
  have hne2 : c0 ≠ c1 := by simpa using hne
  have hag : ∀ b, b ∉ [c1] → (fun b => if b = c1 then q else ad b) b = ad b := fun b hb => if_neg (fun z => hb (by rw [z]; exact List.mem_cons_self))
  obtain ⟨f1, f2, f3, f4⟩ := frs_ag hf hag
  have hq1 : (fun b => if b = c1 then q else ad b) c1 = q := if_pos rfl
  have hP2 := vaP_l hP1
  have eX : rawW (fun b => if b = c1 then q else ad b) (X ++ [(c1, ci, vals)]) = rawW ad X ++ [((q, Sum.inr (ci, vals)) : Nat × va_E)] := by
    unfold rawW
    rw [List.map_append]
    have := ag_X f1
    unfold rawW at this
    rw [this]
    show _ ++ [((fun b => if b = c1 then q else ad b) c1, Sum.inr (ci, vals.map (trv _)))] = _
    rw [hq1, hcl]
  have pm : ((rawW ad X ++ wld cI cQ ad tb sg) ++ [((q, Sum.inr (ci, vals)) : Nat × va_E)]).Perm ((rawW ad X ++ [((q, Sum.inr (ci, vals)) : Nat × va_E)]) ++ wld cI cQ ad tb sg) := by
    rw [List.append_assoc, List.append_assoc]
    exact List.Perm.append_left _ List.perm_append_comm
  have hP3 := vaP_pm pm hP1
  have hD3 := vaD_pm pm hD1
  have K := k (fun b => if b = c1 then q else ad b) (by show (if c0 = c1 then q else ad c0) = h0; rw [if_neg hne2]; exact h0e) H1 locs ls (by rw [eX]; exact (vaP_l hP3).app (ag_W f2 (vaP_r hP3))) (by
    refine vaD_iff.2 ?_
    have h := vaD_iff.1 hD3
    have e : (rawW (fun b => if b = c1 then q else ad b) (X ++ [(c1, ci, vals)]) ++ wld cI cQ (fun b => if b = c1 then q else ad b) tb sg).map Prod.fst = ((rawW ad X ++ [((q, Sum.inr (ci, vals)) : Nat × va_E)]) ++ wld cI cQ ad tb sg).map Prod.fst := by
      rw [eX, List.map_append, List.map_append (l₂ := wld cI cQ ad tb sg), wld_f, wld_f, ag_f f2]
    rw [e]
    exact h) hS1 (by rw [f3]; exact hl)
  have e5 : (Value.ref c1 :: st).map (trv (fun b => if b = c1 then q else ad b)) = .ref q :: st.map (trv ad) := by
    rw [List.map_cons, f4]
    show Value.ref ((fun b => if b = c1 then q else ad b) c1) :: _ = _
    rw [hq1]
  rw [e5] at K
  exact K
end GR
