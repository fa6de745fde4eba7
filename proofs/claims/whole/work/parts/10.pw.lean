/-! The pure picture: a state is sg : cell number -> place -> int; what a cell is (an int row, a row of references, an object) stands in a table -/
abbrev Hp : Type := Nat → Nat → Int32
abbrev Shp : Type := Nat ⊕ ((Nat × Nat) ⊕ (Nat × List (Option Nat)))
abbrev Sd : Type := List (Nat × Shp)
abbrev Mth : Type := MethodName × ByteArray × Nat × Option FieldType
def fnd : Sd → Nat → Option Shp
  | [], _ => none
  | q :: r, c => bif q.1 == c then some q.2 else fnd r c
def alen (tb : Sd) (c : Nat) : Nat := match fnd tb c with
  | some (.inl n) => n
  | _ => 0
def isA (tb : Sd) (c : Nat) : Bool := match fnd tb c with
  | some (.inl _) => true
  | _ => false
def trv (ad : Nat → Nat) : Value → Value
  | .ref c => .ref (ad c)
  | v => v
def fvl (ad : Nat → Nat) (x : Option Nat) (v : Int32) : Value := match x with
  | some c => .ref (ad c)
  | none => .int v
def flds (ad : Nat → Nat) : List (Option Nat) → Nat → (Nat → Int32) → List Value
  | [], _, _ => []
  | x :: r, k, g => fvl ad x (g k) :: flds ad r (k + 1) g
def cel (cI cQ : ClassId) (ad : Nat → Nat) (sh : Shp) (g : Nat → Int32) : va_E := match sh with
  | .inl n => .inl (cI, n, .inl g)
  | .inr (.inl q) => .inl (cQ, q.1, .inr (.inr (.inr (.inr (fun i => some (ad (q.2 + i)))))))
  | .inr (.inr q) => .inr (q.1, flds ad q.2 0 g)
def wld (cI cQ : ClassId) (ad : Nat → Nat) (tb : Sd) (sg : Hp) : va_W := tb.map (fun q => (ad q.1, cel cI cQ ad q.2 (sg q.1)))
def upC (sg : Hp) (c : Nat) (g : Nat → Int32) : Hp := fun b => if b = c then g else sg b
def up2 (sg : Hp) (c k : Nat) (x : Int32) : Hp := upC sg c (upd (sg c) k x)
theorem fnd_at {c : Nat} {sh : Shp} : ∀ {tb : Sd}, fnd tb c = some sh → ∃ k : Nat, tb[k]? = some (c, sh)
  | [], h => by simp [fnd] at h
  | q :: r, h => by
    unfold fnd at h
    cases hq : (q.1 == c) with
    | true =>
      rw [hq] at h
      refine ⟨0, ?_⟩
      have h1 : q.1 = c := by simpa using hq
      have h2 : q.2 = sh := by simpa using h
      rw [List.getElem?_cons_zero, ← h1, ← h2]
    | false =>
      rw [hq] at h
      obtain ⟨k, hk⟩ := fnd_at (tb := r) (by simpa using h)
      exact ⟨k + 1, by rw [List.getElem?_cons_succ]; exact hk⟩
theorem isA_at {tb : Sd} {c : Nat} (h : isA tb c = true) : fnd tb c = some (.inl (alen tb c)) := by
  unfold isA at h
  unfold alen
  split at h
  · rename_i n hn
    rw [hn]
  · cases h
theorem wld_at {cI cQ : ClassId} {ad : Nat → Nat} {tb : Sd} {sg : Hp} {c k : Nat} {sh : Shp} (h : tb[k]? = some (c, sh)) : (wld cI cQ ad tb sg)[k]? = some (ad c, cel cI cQ ad sh (sg c)) := by
  unfold wld
  rw [List.getElem?_map, h]
  rfl
theorem wld_set {cI cQ : ClassId} {ad : Nat → Nat} {tb : Sd} {sg : Hp} {c k : Nat} {sh : Shp} {A : Nat → Prop} (hD : va_D A (wld cI cQ ad tb sg)) (h : tb[k]? = some (c, sh)) (g : Nat → Int32) : (wld cI cQ ad tb sg).set k (ad c, cel cI cQ ad sh g) = wld cI cQ ad tb (upC sg c g) := by
  have hl : k < tb.length := (List.getElem?_eq_some_iff.mp h).1
  apply List.ext_getElem?
  intro j
  by_cases hj : j = k
  · subst hj
    rw [List.getElem?_set_self (by simp [wld]; exact hl), wld_at h]
    simp [upC]
  · rw [List.getElem?_set_ne (Ne.symm hj)]
    unfold wld
    rw [List.getElem?_map, List.getElem?_map]
    cases hq : tb[j]? with
    | none => rfl
    | some q =>
      have hne : q.1 ≠ c := fun e => hj (hD.1 j k (ad q.1, cel cI cQ ad q.2 (sg q.1)) (ad c, cel cI cQ ad sh (sg c)) (wld_at (by rw [hq])) (wld_at h) (by rw [e]))
      simp [upC, hne]
theorem flds_get {ad : Nat → Nat} {g : Nat → Int32} {x : Option Nat} : ∀ {fl : List (Option Nat)} {k j : Nat}, fl[k]? = some x → (flds ad fl j g)[k]? = some (fvl ad x (g (j + k)))
  | [], k, j, h => by simp at h
  | y :: r, 0, j, h => by
    rw [List.getElem?_cons_zero] at h
    cases h
    rfl
  | y :: r, k + 1, j, h => by
    rw [List.getElem?_cons_succ] at h
    have := flds_get (ad := ad) (g := g) (j := j + 1) h
    show (flds ad r (j + 1) g)[k]? = _
    rw [this, show j + 1 + k = j + (k + 1) by omega]
theorem flds_len {ad : Nat → Nat} {g : Nat → Int32} : ∀ {fl : List (Option Nat)} {j : Nat}, (flds ad fl j g).length = fl.length
  | [], _ => rfl
  | y :: r, j => by show (flds ad r (j + 1) g).length + 1 = _; rw [flds_len]; rfl
theorem flds_same {ad : Nat → Nat} {g h : Nat → Int32} : ∀ {fl : List (Option Nat)} {j : Nat}, (∀ i, j ≤ i → g i = h i) → flds ad fl j g = flds ad fl j h
  | [], _, _ => rfl
  | y :: r, j, e => by
    show fvl ad y (g j) :: flds ad r (j + 1) g = fvl ad y (h j) :: flds ad r (j + 1) h
    rw [e j (Nat.le_refl j), flds_same (fun i hi => e i (by omega))]
theorem flds_set {ad : Nat → Nat} {g : Nat → Int32} {v : Int32} : ∀ {fl : List (Option Nat)} {k j : Nat}, fl[k]? = some none → (flds ad fl j g).set k (.int v) = flds ad fl j (upd g (j + k) v)
  | [], k, j, h => by simp at h
  | y :: r, 0, j, h => by
    rw [List.getElem?_cons_zero] at h
    cases h
    show Value.int v :: flds ad r (j + 1) g = .int (upd g j v j) :: flds ad r (j + 1) (upd g j v)
    rw [flds_same (g := g) (h := upd g j v) (fun i hi => by simp [upd]; omega)]
    simp [upd]
  | y :: r, k + 1, j, h => by
    rw [List.getElem?_cons_succ] at h
    show fvl ad y (g j) :: (flds ad r (j + 1) g).set k (.int v) = fvl ad y (upd g (j + (k + 1)) v j) :: flds ad r (j + 1) (upd g (j + (k + 1)) v)
    rw [flds_set h, show j + 1 + k = j + (k + 1) by omega]
    simp [upd]
/-! locals as a list of (slot, value) -/
def lget : List (Nat × Value) → Nat → Option Value
  | [], _ => none
  | q :: r, i => bif q.1 == i then some q.2 else lget r i
def lset : List (Nat × Value) → Nat → Value → List (Nat × Value)
  | [], i, v => [(i, v)]
  | q :: r, i, v => bif q.1 == i then (i, v) :: r else q :: lset r i v
def lone : List (Nat × Value) → Nat → Bool
  | [], _ => true
  | q :: r, i => !(q.1 + 1 == i && q.2.category == 2) && lone r i
def ldis : List (Nat × Value) → Bool
  | [] => true
  | q :: r => r.all (fun z => !(z.1 == q.1)) && ldis r

def tlv (ad : Nat → Nat) (lv : List (Nat × Value)) : List (Nat × Value) := lv.map (fun q => (q.1, trv ad q.2))
theorem lget_at {ad : Nat → Nat} {ls : Array Slot} {nL : Nat} {i : Nat} {v : Value} : ∀ {lv : List (Nat × Value)}, (∀ q ∈ tlv ad lv, ls[q.1]? = some (.val q.2)) → lget lv i = some v → ls[i]? = some (.val (trv ad v))
  | [], _, h => by simp [lget] at h
  | q :: r, hl, h => by
    unfold lget at h
    cases hq : (q.1 == i) with
    | true =>
      rw [hq] at h
      have h1 : q.1 = i := by simpa using hq
      have h2 : q.2 = v := by simpa using h
      have := hl (q.1, trv ad q.2) (by simp [tlv])
      rw [h1, h2] at this
      exact this
    | false =>
      rw [hq] at h
      exact lget_at (nL := nL) (lv := r) (fun z hz => hl z (by simp [tlv] at hz ⊢; exact Or.inr hz)) (by simpa using h)
theorem trv_cat (ad : Nat → Nat) (v : Value) : (trv ad v).category = v.category := by cases v <;> rfl
theorem lset_in {i : Nat} {v : Value} {q : Nat × Value} : ∀ {lv : List (Nat × Value)}, ldis lv = true → q ∈ lset lv i v → q = (i, v) ∨ (q ∈ lv ∧ q.1 ≠ i)
  | [], _, h => by simp [lset] at h; exact Or.inl h
  | z :: r, hd, h => by
    unfold lset at h
    unfold ldis at hd
    simp only [Bool.and_eq_true] at hd
    cases hz : (z.1 == i) with
    | true =>
      rw [hz] at h
      have h1 : z.1 = i := by simpa using hz
      rcases List.mem_cons.mp (by simpa using h) with h | h
      · exact Or.inl h
      · refine Or.inr ⟨List.mem_cons_of_mem _ h, fun e => ?_⟩
        have := List.all_eq_true.mp hd.1 q h
        simp [e, h1] at this
    | false =>
      rw [hz] at h
      have h1 : z.1 ≠ i := by simpa using hz
      rcases List.mem_cons.mp (by simpa using h) with h | h
      · subst h
        exact Or.inr ⟨List.mem_cons_self, h1⟩
      · rcases lset_in hd.2 h with h | ⟨h, h2⟩
        · exact Or.inl h
        · exact Or.inr ⟨List.mem_cons_of_mem _ h, h2⟩
theorem lone_in {i : Nat} {q : Nat × Value} : ∀ {lv : List (Nat × Value)}, lone lv i = true → q ∈ lv → ¬ (q.1 + 1 = i ∧ q.2.category = 2)
  | [], _, h => by simp at h
  | z :: r, hd, h => by
    unfold lone at hd
    simp only [Bool.and_eq_true, Bool.not_eq_true'] at hd
    rcases List.mem_cons.mp h with h | h
    · subst h
      intro e
      simp [e.1, e.2] at hd
    · exact lone_in hd.2 h
theorem lset_has {ad : Nat → Nat} {ls : Array Slot} {nL i : Nat} {v : Value} {lv : List (Nat × Value)} (hd : ldis lv = true) (ho : lone lv i = true) (h : lv_has ls nL ((i, trv ad v) :: (tlv ad lv).filter (fun q => !(q.1 == i) && !(q.1 + 1 == i && q.2.category == 2)))) : lv_has ls nL (tlv ad (lset lv i v)) := by
  refine ⟨h.1, h.2.1, fun q hq => ?_⟩
  obtain ⟨z, hz, rfl⟩ := List.mem_map.mp hq
  rcases lset_in hd hz with rfl | ⟨h1, h2⟩
  · exact h.2.2 _ List.mem_cons_self
  · refine h.2.2 _ (List.mem_cons_of_mem _ (List.mem_filter.mpr ⟨List.mem_map.mpr ⟨z, h1, rfl⟩, ?_⟩))
    have := lone_in ho h1
    simp only [Bool.and_eq_true, Bool.not_eq_true', beq_eq_false_iff_ne, ne_eq, Bool.and_eq_false_iff]
    refine ⟨h2, ?_⟩
    by_cases e : z.1 + 1 = i
    · refine Or.inr (fun e2 => this ⟨e, ?_⟩)
      rw [← trv_cat ad]
      exact e2
    · exact Or.inl e
/-! the judgement -/
def isNst : Cond → Bool
  | .fieldLinkNest .. => true
  | .methodLinkNest .. => true
  | _ => false
def gtb : List Cond := lw_tbl.filter goodWord
theorem gm {w : Cond} (h : w ∈ lw_tbl) (h2 : goodWord w = true) : w ∈ gtb := List.mem_filter.mpr ⟨h, h2⟩
abbrev tys2 (cI cQ : ClassId) : List (ClassId × FieldType) := [(cI, .int), (cQ, .array .int)]
/-- what the tables say of the classes; the links to private members of nest mates -/
def KK (D : va_G) (cI cQ : ClassId) (U : State) : Prop := va_K D vwCl (tys2 cI cQ) U ∧ ∀ w ∈ lw_tbl, isNst w = true → va_Nw w U
theorem KK.warm {D : va_G} {cI cQ : ClassId} {s U : State} (hW : s.WarmedH U.vm) (h : KK D cI cQ s) : KK D cI cQ U := by
  refine ⟨va_K.moved hW.alike h.1, fun w hw hn => ?_⟩
  have h1 := h.2 w hw hn
  cases w <;> first | (exact va_Nw.warmF hW h1) | (exact va_Nw.warmM hW h1) | (exact absurd hn (by simp [isNst]))
theorem KK.call {D : va_G} {cI cQ : ClassId} {U : State} {g : JFrame} {mk : MethodId} {a : Array Value} (h : KK D cI cQ U) : KK D cI cQ (U.calling g mk a) := by
  refine ⟨va_K.moved (u := U) (U := U.calling g mk a) (Vm.Alike.refl U.vm) h.1, fun w hw hn => ?_⟩
  have h1 := h.2 w hw hn
  have ht : w.onTables = true := by cases w <;> first | rfl | (exact absurd hn (by simp [isNst]))
  exact va_Nw.same (u := U) (U := U.calling g mk a) ht rfl h1
def rmd (d : Nat) : Room := { frames := d, cells := 0, slots := 0, locals := 40 * d }
def wsM (M : Mth) : List Cond := .code M.1 M.2.1 M.2.2.1 M.2.2.2 :: gtb
def pst (D : va_G) (cI cQ : ClassId) (ad : Nat → Nat) (tb : Sd) (A : Nat → Prop) (Q : Option Value → Hp → Prop) : Array Value → State → Outcome → State → Prop := fun _ st oc t => (∃ (r : Option Value) (sg : Hp), oc = .returned (r.map (trv ad)) ∧ Q r sg ∧ va_P D vwCl (wld cI cQ ad tb sg) t.heap ∧ va_D A (wld cI cQ ad tb sg)) ∧ va_F A st t
def cxt (M : Mth) (p : Program) (s : State) (m : MethodId) (args : Array Value) (meth : Method) (c : Code) (D : va_G) (cI cQ : ClassId) : Prop := p.tables.exec = Jvm.exec ∧ c.code = M.2.1 ∧ c.maxLocals = M.2.2.1 ∧ meth.sig.returnType = M.2.2.2 ∧ meth.locks = false ∧ s.vm.findClass M.1.cls = some m.cls ∧ (∀ w ∈ gtb, w.before args s = true) ∧ KK D cI cQ s
def wht (D : va_G) (cI cQ : ClassId) (ad : Nat → Nat) (tb : Sd) (A : Nat → Prop) (s : State) (H : Heap) (locs : List Loc) (sg : Hp) : Prop := va_P D vwCl (wld cI cQ ad tb sg) H ∧ va_D A (wld cI cQ ad tb sg) ∧ va_S A s.heap H locs ∧ ∀ q : Nat, s.heap.size ≤ q → A q
def pw (tb : Sd) (d : Nat) (M : Mth) (pc : Nat) (lv : List (Nat × Value)) (st : List Value) (sg : Hp) (Q : Option Value → Hp → Prop) : Prop :=
  ∀ (p : Program) (l : Launch) (e : Env) (s : State) (m : MethodId) (args : Array Value) (below : List Frame) (meth : Method) (c : Code) (D : va_G) (cI cQ : ClassId) (ad : Nat → Nat) (A : Nat → Prop) (H : Heap) (locs : List Loc) (ls : Array Slot), cxt M p s m args meth c D cI cQ → wht D cI cQ ad tb A s H locs sg → lv_has ls M.2.2.1 (tlv ad lv) →
    W p l e (rmd d) s m args below meth c H locs 0 0 (MQ below (pst D cI cQ ad tb A Q) args s 0 0 A) (F0 m pc ls (st.map (trv ad)))
section PW
variable {tb : Sd} {d : Nat} {M : Mth} {pc : Nat} {lv : List (Nat × Value)} {st : List Value} {sg : Hp} {Q : Option Value → Hp → Prop}
theorem p_mono {Q2 : Option Value → Hp → Prop} (h : pw tb d M pc lv st sg Q) (hq : ∀ r s2, Q r s2 → Q2 r s2) : pw tb d M pc lv st sg Q2 := by
  intro p l e s m args below meth c D cI cQ ad A H locs ls hc hw hl T hT X
  obtain ⟨t, a1, o, b1, b2, ⟨⟨r, s2, c1, c2, c3⟩, c4⟩, b4⟩ := h p l e s m args below meth c D cI cQ ad A H locs ls hc hw hl T hT X
  exact ⟨t, a1, o, b1, b2, ⟨⟨r, s2, c1, hq r s2 c2, c3⟩, c4⟩, b4⟩
theorem p_iconst {n : Int} {v : Int32} (hv : Int32.ofInt n = v) (hd : decode M.2.1 pc = .ok (.iconst n, 1)) (k : pw tb d M (pc + 1) lv (.int v :: st) sg Q) : pw tb d M pc lv (st) sg Q := by
  intro p l e s m args below meth c D cI cQ ad A H locs ls hc hw hl
  exact lv_iconst hc.1 hc.2.1 hd hv (k p l e s m args below meth c D cI cQ ad A H locs ls hc hw hl)
theorem p_bipush {n : Int} {v : Int32} (hv : (Int8.ofInt n).toInt32 = v) (hd : decode M.2.1 pc = .ok (.bipush n, 2)) (k : pw tb d M (pc + 2) lv (.int v :: st) sg Q) : pw tb d M pc lv (st) sg Q := by
  intro p l e s m args below meth c D cI cQ ad A H locs ls hc hw hl
  exact lv_bipush hc.1 hc.2.1 hd hv (k p l e s m args below meth c D cI cQ ad A H locs ls hc hw hl)
theorem p_sipush {n : Int} {v : Int32} (hv : (Int16.ofInt n).toInt32 = v) (hd : decode M.2.1 pc = .ok (.sipush n, 3)) (k : pw tb d M (pc + 3) lv (.int v :: st) sg Q) : pw tb d M pc lv (st) sg Q := by
  intro p l e s m args below meth c D cI cQ ad A H locs ls hc hw hl
  exact lv_sipush hc.1 hc.2.1 hd hv (k p l e s m args below meth c D cI cQ ad A H locs ls hc hw hl)
theorem p_lconst {n : Fin 2} {v : Int64} (hv : Int64.ofNat (n : Nat) = v) (hd : decode M.2.1 pc = .ok (.lconst n, 1)) (k : pw tb d M (pc + 1) lv (.long v :: st) sg Q) : pw tb d M pc lv (st) sg Q := by
  intro p l e s m args below meth c D cI cQ ad A H locs ls hc hw hl
  exact lv_lconst hc.1 hc.2.1 hd hv (k p l e s m args below meth c D cI cQ ad A H locs ls hc hw hl)
theorem p_ldc {index : Nat} {v : Int32} (hw0 : Jvm.Cond.constant M.1.cls index v ∈ gtb) (hd : decode M.2.1 pc = .ok (.ldc index, 2)) (k : pw tb d M (pc + 2) lv (.int v :: st) sg Q) : pw tb d M pc lv (st) sg Q := by
  intro p l e s m args below meth c D cI cQ ad A H locs ls hc hw hl
  exact lv_ldc hc.1 hc.2.1 hc.2.2.2.2.2.1 (hc.2.2.2.2.2.2.1 _ hw0) hd (k p l e s m args below meth c D cI cQ ad A H locs ls hc hw hl)
theorem p_ldcw {index : Nat} {v : Int32} (hw0 : Jvm.Cond.constant M.1.cls index v ∈ gtb) (hd : decode M.2.1 pc = .ok (.ldc_w index, 3)) (k : pw tb d M (pc + 3) lv (.int v :: st) sg Q) : pw tb d M pc lv (st) sg Q := by
  intro p l e s m args below meth c D cI cQ ad A H locs ls hc hw hl
  exact lv_ldcw hc.1 hc.2.1 hc.2.2.2.2.2.1 (hc.2.2.2.2.2.2.1 _ hw0) hd (k p l e s m args below meth c D cI cQ ad A H locs ls hc hw hl)
theorem p_ldc2 {index : Nat} {v : Int64} (hw0 : Jvm.Cond.constantLong M.1.cls index v ∈ gtb) (hd : decode M.2.1 pc = .ok (.ldc2_w index, 3)) (k : pw tb d M (pc + 3) lv (.long v :: st) sg Q) : pw tb d M pc lv (st) sg Q := by
  intro p l e s m args below meth c D cI cQ ad A H locs ls hc hw hl
  exact lv_ldc2 hc.1 hc.2.1 hc.2.2.2.2.2.1 (hc.2.2.2.2.2.2.1 _ hw0) hd (k p l e s m args below meth c D cI cQ ad A H locs ls hc hw hl)
theorem p_iload_n {k0 : Fin 4} {x : Int32} (h : lget lv (k0 : Nat) = some (.int x)) (hd : decode M.2.1 pc = .ok (.iload_n k0, 1)) (k : pw tb d M (pc + 1) lv (.int x :: st) sg Q) : pw tb d M pc lv (st) sg Q := by
  intro p l e s m args below meth c D cI cQ ad A H locs ls hc hw hl
  exact lv_iload_n hc.1 hc.2.1 hd rfl (lget_at (nL := 0) hl.2.2 h) (k p l e s m args below meth c D cI cQ ad A H locs ls hc hw hl)
theorem p_iload {i : Nat} {x : Int32} (h : lget lv i = some (.int x)) (hd : decode M.2.1 pc = .ok (.iload i, 2)) (k : pw tb d M (pc + 2) lv (.int x :: st) sg Q) : pw tb d M pc lv (st) sg Q := by
  intro p l e s m args below meth c D cI cQ ad A H locs ls hc hw hl
  exact lv_iload hc.1 hc.2.1 hd (lget_at (nL := 0) hl.2.2 h) (k p l e s m args below meth c D cI cQ ad A H locs ls hc hw hl)
theorem p_lload_n {k0 : Fin 4} {x : Int64} (h : lget lv (k0 : Nat) = some (.long x)) (hd : decode M.2.1 pc = .ok (.lload_n k0, 1)) (k : pw tb d M (pc + 1) lv (.long x :: st) sg Q) : pw tb d M pc lv (st) sg Q := by
  intro p l e s m args below meth c D cI cQ ad A H locs ls hc hw hl
  exact lv_lload_n hc.1 hc.2.1 hd rfl (lget_at (nL := 0) hl.2.2 h) (k p l e s m args below meth c D cI cQ ad A H locs ls hc hw hl)
theorem p_lload {i : Nat} {x : Int64} (h : lget lv i = some (.long x)) (hd : decode M.2.1 pc = .ok (.lload i, 2)) (k : pw tb d M (pc + 2) lv (.long x :: st) sg Q) : pw tb d M pc lv (st) sg Q := by
  intro p l e s m args below meth c D cI cQ ad A H locs ls hc hw hl
  exact lv_lload hc.1 hc.2.1 hd (lget_at (nL := 0) hl.2.2 h) (k p l e s m args below meth c D cI cQ ad A H locs ls hc hw hl)
theorem p_aload_n {k0 : Fin 4} {x : Nat} (h : lget lv (k0 : Nat) = some (.ref x)) (hd : decode M.2.1 pc = .ok (.aload_n k0, 1)) (k : pw tb d M (pc + 1) lv (.ref x :: st) sg Q) : pw tb d M pc lv (st) sg Q := by
  intro p l e s m args below meth c D cI cQ ad A H locs ls hc hw hl
  exact lv_aload_n hc.1 hc.2.1 hd rfl (lget_at (nL := 0) hl.2.2 h) (k p l e s m args below meth c D cI cQ ad A H locs ls hc hw hl)
theorem p_aload {i : Nat} {x : Nat} (h : lget lv i = some (.ref x)) (hd : decode M.2.1 pc = .ok (.aload i, 2)) (k : pw tb d M (pc + 2) lv (.ref x :: st) sg Q) : pw tb d M pc lv (st) sg Q := by
  intro p l e s m args below meth c D cI cQ ad A H locs ls hc hw hl
  exact lv_aload hc.1 hc.2.1 hd (lget_at (nL := 0) hl.2.2 h) (k p l e s m args below meth c D cI cQ ad A H locs ls hc hw hl)
theorem p_istore_n {k0 : Fin 4} {x : Int32} (hn : (k0 : Nat) < M.2.2.1) (hs : (ldis lv && lone lv (k0 : Nat)) = true) (hd : decode M.2.1 pc = .ok (.istore_n k0, 1)) (k : pw tb d M (pc + 1) (lset lv (k0 : Nat) (.int x)) st sg Q) : pw tb d M pc lv (.int x :: st) sg Q := by
  intro p l e s m args below meth c D cI cQ ad A H locs ls hc hw hl
  have hs2 := Bool.and_eq_true_iff.mp hs
  exact lv_istore_n hc.1 hc.2.1 hd rfl hl hn rfl (fun ls2 hl2 => k p l e s m args below meth c D cI cQ ad A H locs ls2 hc hw (lset_has (v := .int x) hs2.1 hs2.2 hl2))
theorem p_istore {i : Nat} {x : Int32} (hn : i < M.2.2.1) (hs : (ldis lv && lone lv i) = true) (hd : decode M.2.1 pc = .ok (.istore i, 2)) (k : pw tb d M (pc + 2) (lset lv i (.int x)) st sg Q) : pw tb d M pc lv (.int x :: st) sg Q := by
  intro p l e s m args below meth c D cI cQ ad A H locs ls hc hw hl
  have hs2 := Bool.and_eq_true_iff.mp hs
  exact lv_istore hc.1 hc.2.1 hd hl hn rfl (fun ls2 hl2 => k p l e s m args below meth c D cI cQ ad A H locs ls2 hc hw (lset_has (v := .int x) hs2.1 hs2.2 hl2))
theorem p_astore_n {k0 : Fin 4} {x : Nat} (hn : (k0 : Nat) < M.2.2.1) (hs : (ldis lv && lone lv (k0 : Nat)) = true) (hd : decode M.2.1 pc = .ok (.astore_n k0, 1)) (k : pw tb d M (pc + 1) (lset lv (k0 : Nat) (.ref x)) st sg Q) : pw tb d M pc lv (.ref x :: st) sg Q := by
  intro p l e s m args below meth c D cI cQ ad A H locs ls hc hw hl
  have hs2 := Bool.and_eq_true_iff.mp hs
  exact lv_astore_n hc.1 hc.2.1 hd rfl hl hn rfl (fun ls2 hl2 => k p l e s m args below meth c D cI cQ ad A H locs ls2 hc hw (lset_has (v := .ref x) hs2.1 hs2.2 hl2))
theorem p_astore {i : Nat} {x : Nat} (hn : i < M.2.2.1) (hs : (ldis lv && lone lv i) = true) (hd : decode M.2.1 pc = .ok (.astore i, 2)) (k : pw tb d M (pc + 2) (lset lv i (.ref x)) st sg Q) : pw tb d M pc lv (.ref x :: st) sg Q := by
  intro p l e s m args below meth c D cI cQ ad A H locs ls hc hw hl
  have hs2 := Bool.and_eq_true_iff.mp hs
  exact lv_astore hc.1 hc.2.1 hd hl hn rfl (fun ls2 hl2 => k p l e s m args below meth c D cI cQ ad A H locs ls2 hc hw (lset_has (v := .ref x) hs2.1 hs2.2 hl2))
theorem lget_mem {i : Nat} {v : Value} : ∀ {lv : List (Nat × Value)}, lget lv i = some v → (i, v) ∈ lv
  | [], h => by simp [lget] at h
  | q :: r, h => by
    unfold lget at h
    cases hq : (q.1 == i) with
    | true =>
      rw [hq] at h
      have h1 : q.1 = i := by simpa using hq
      have h2 : q.2 = v := by simpa using h
      rw [← h1, ← h2]
      exact List.mem_cons_self
    | false =>
      rw [hq] at h
      exact List.mem_cons_of_mem _ (lget_mem (by simpa using h))
theorem p_iinc {i : Nat} {n : Int} {x w : Int32} (hv : Int32.ofInt n = w) (hg : lget lv i = some (.int x)) (hn : i < M.2.2.1) (hs : (ldis lv && lone lv i) = true) (hd : decode M.2.1 pc = .ok (.iinc i n, 3)) (k : pw tb d M (pc + 3) (lset lv i (.int (x + w))) st sg Q) : pw tb d M pc lv st sg Q := by
  intro p l e s m args below meth c D cI cQ ad A H locs ls hc hw hl
  have hs2 := Bool.and_eq_true_iff.mp hs
  obtain ⟨j, hj⟩ := List.getElem?_of_mem (List.mem_map.mpr ⟨_, lget_mem hg, rfl⟩ : (i, trv ad (.int x)) ∈ tlv ad lv)
  exact lv_iinc hc.1 hc.2.1 hd hl hj (by rw [hv]) hn rfl (fun ls2 hl2 => k p l e s m args below meth c D cI cQ ad A H locs ls2 hc hw (lset_has (v := .int (x + w)) hs2.1 hs2.2 hl2))
theorem p_iadd {x y : Int32} (hd : decode M.2.1 pc = .ok (.iadd, 1)) (k : pw tb d M (pc + 1) lv (.int (x + y) :: st) sg Q) : pw tb d M pc lv (.int y :: .int x :: st) sg Q := by
  intro p l e s m args below meth c D cI cQ ad A H locs ls hc hw hl
  exact lv_iadd hc.1 hc.2.1 hd (k p l e s m args below meth c D cI cQ ad A H locs ls hc hw hl)
theorem p_isub {x y : Int32} (hd : decode M.2.1 pc = .ok (.isub, 1)) (k : pw tb d M (pc + 1) lv (.int (x - y) :: st) sg Q) : pw tb d M pc lv (.int y :: .int x :: st) sg Q := by
  intro p l e s m args below meth c D cI cQ ad A H locs ls hc hw hl
  exact lv_isub hc.1 hc.2.1 hd (k p l e s m args below meth c D cI cQ ad A H locs ls hc hw hl)
theorem p_imul {x y : Int32} (hd : decode M.2.1 pc = .ok (.imul, 1)) (k : pw tb d M (pc + 1) lv (.int (x * y) :: st) sg Q) : pw tb d M pc lv (.int y :: .int x :: st) sg Q := by
  intro p l e s m args below meth c D cI cQ ad A H locs ls hc hw hl
  exact lv_imul hc.1 hc.2.1 hd (k p l e s m args below meth c D cI cQ ad A H locs ls hc hw hl)
theorem p_iand {x y : Int32} (hd : decode M.2.1 pc = .ok (.iand, 1)) (k : pw tb d M (pc + 1) lv (.int (x &&& y) :: st) sg Q) : pw tb d M pc lv (.int y :: .int x :: st) sg Q := by
  intro p l e s m args below meth c D cI cQ ad A H locs ls hc hw hl
  exact lv_iand hc.1 hc.2.1 hd (k p l e s m args below meth c D cI cQ ad A H locs ls hc hw hl)
theorem p_ior {x y : Int32} (hd : decode M.2.1 pc = .ok (.ior, 1)) (k : pw tb d M (pc + 1) lv (.int (x ||| y) :: st) sg Q) : pw tb d M pc lv (.int y :: .int x :: st) sg Q := by
  intro p l e s m args below meth c D cI cQ ad A H locs ls hc hw hl
  exact lv_ior hc.1 hc.2.1 hd (k p l e s m args below meth c D cI cQ ad A H locs ls hc hw hl)
theorem p_ixor {x y : Int32} (hd : decode M.2.1 pc = .ok (.ixor, 1)) (k : pw tb d M (pc + 1) lv (.int (x ^^^ y) :: st) sg Q) : pw tb d M pc lv (.int y :: .int x :: st) sg Q := by
  intro p l e s m args below meth c D cI cQ ad A H locs ls hc hw hl
  exact lv_ixor hc.1 hc.2.1 hd (k p l e s m args below meth c D cI cQ ad A H locs ls hc hw hl)
theorem p_ishl {x y : Int32} (hd : decode M.2.1 pc = .ok (.ishl, 1)) (k : pw tb d M (pc + 1) lv (.int (x <<< (y &&& 31)) :: st) sg Q) : pw tb d M pc lv (.int y :: .int x :: st) sg Q := by
  intro p l e s m args below meth c D cI cQ ad A H locs ls hc hw hl
  exact lv_ishl hc.1 hc.2.1 hd (k p l e s m args below meth c D cI cQ ad A H locs ls hc hw hl)
theorem p_ishr {x y : Int32} (hd : decode M.2.1 pc = .ok (.ishr, 1)) (k : pw tb d M (pc + 1) lv (.int (x >>> (y &&& 31)) :: st) sg Q) : pw tb d M pc lv (.int y :: .int x :: st) sg Q := by
  intro p l e s m args below meth c D cI cQ ad A H locs ls hc hw hl
  exact lv_ishr hc.1 hc.2.1 hd (k p l e s m args below meth c D cI cQ ad A H locs ls hc hw hl)
theorem p_ladd {x y : Int64} (hd : decode M.2.1 pc = .ok (.ladd, 1)) (k : pw tb d M (pc + 1) lv (.long (x + y) :: st) sg Q) : pw tb d M pc lv (.long y :: .long x :: st) sg Q := by
  intro p l e s m args below meth c D cI cQ ad A H locs ls hc hw hl
  exact lv_ladd hc.1 hc.2.1 hd (k p l e s m args below meth c D cI cQ ad A H locs ls hc hw hl)
theorem p_lsub {x y : Int64} (hd : decode M.2.1 pc = .ok (.lsub, 1)) (k : pw tb d M (pc + 1) lv (.long (x - y) :: st) sg Q) : pw tb d M pc lv (.long y :: .long x :: st) sg Q := by
  intro p l e s m args below meth c D cI cQ ad A H locs ls hc hw hl
  exact lv_lsub hc.1 hc.2.1 hd (k p l e s m args below meth c D cI cQ ad A H locs ls hc hw hl)
theorem p_lmul {x y : Int64} (hd : decode M.2.1 pc = .ok (.lmul, 1)) (k : pw tb d M (pc + 1) lv (.long (x * y) :: st) sg Q) : pw tb d M pc lv (.long y :: .long x :: st) sg Q := by
  intro p l e s m args below meth c D cI cQ ad A H locs ls hc hw hl
  exact lv_lmul hc.1 hc.2.1 hd (k p l e s m args below meth c D cI cQ ad A H locs ls hc hw hl)
theorem p_lcmp {x y : Int64} (hd : decode M.2.1 pc = .ok (.lcmp, 1)) (k : pw tb d M (pc + 1) lv (.int (lg_cmp x y) :: st) sg Q) : pw tb d M pc lv (.long y :: .long x :: st) sg Q := by
  intro p l e s m args below meth c D cI cQ ad A H locs ls hc hw hl
  exact W.lcmp hc.1 hc.2.1 hd (k p l e s m args below meth c D cI cQ ad A H locs ls hc hw hl)
theorem p_i2l {x : Int32} (hd : decode M.2.1 pc = .ok (.i2l, 1)) (k : pw tb d M (pc + 1) lv (.long x.toInt64 :: st) sg Q) : pw tb d M pc lv (.int x :: st) sg Q := by
  intro p l e s m args below meth c D cI cQ ad A H locs ls hc hw hl
  exact lv_i2l hc.1 hc.2.1 hd rfl (k p l e s m args below meth c D cI cQ ad A H locs ls hc hw hl)
theorem p_l2i {x : Int64} (hd : decode M.2.1 pc = .ok (.l2i, 1)) (k : pw tb d M (pc + 1) lv (.int x.toInt32 :: st) sg Q) : pw tb d M pc lv (.long x :: st) sg Q := by
  intro p l e s m args below meth c D cI cQ ad A H locs ls hc hw hl
  exact lv_l2i hc.1 hc.2.1 hd rfl (k p l e s m args below meth c D cI cQ ad A H locs ls hc hw hl)
theorem p_i2b {x : Int32} (hd : decode M.2.1 pc = .ok (.i2b, 1)) (k : pw tb d M (pc + 1) lv (.int x.toInt8.toInt32 :: st) sg Q) : pw tb d M pc lv (.int x :: st) sg Q := by
  intro p l e s m args below meth c D cI cQ ad A H locs ls hc hw hl
  exact lv_i2b hc.1 hc.2.1 hd rfl (k p l e s m args below meth c D cI cQ ad A H locs ls hc hw hl)
theorem p_i2s {x : Int32} (hd : decode M.2.1 pc = .ok (.i2s, 1)) (k : pw tb d M (pc + 1) lv (.int x.toInt16.toInt32 :: st) sg Q) : pw tb d M pc lv (.int x :: st) sg Q := by
  intro p l e s m args below meth c D cI cQ ad A H locs ls hc hw hl
  exact lv_i2s hc.1 hc.2.1 hd rfl (k p l e s m args below meth c D cI cQ ad A H locs ls hc hw hl)
theorem p_dup {v : Value} (hcat : v.category = 1) (hd : decode M.2.1 pc = .ok (.dup, 1)) (k : pw tb d M (pc + 1) lv (v :: v :: st) sg Q) : pw tb d M pc lv (v :: st) sg Q := by
  intro p l e s m args below meth c D cI cQ ad A H locs ls hc hw hl
  exact lv_dup hc.1 hc.2.1 hd (by rw [trv_cat]; exact hcat) (k p l e s m args below meth c D cI cQ ad A H locs ls hc hw hl)
theorem p_pop {v : Value} (hcat : v.category = 1) (hd : decode M.2.1 pc = .ok (.pop, 1)) (k : pw tb d M (pc + 1) lv (st) sg Q) : pw tb d M pc lv (v :: st) sg Q := by
  intro p l e s m args below meth c D cI cQ ad A H locs ls hc hw hl
  exact lv_pop hc.1 hc.2.1 hd (by rw [trv_cat]; exact hcat) (k p l e s m args below meth c D cI cQ ad A H locs ls hc hw hl)
theorem p_dup2 {v w : Value} (hcat : v.category = 1 ∧ w.category = 1) (hd : decode M.2.1 pc = .ok (.dup2, 1)) (k : pw tb d M (pc + 1) lv (v :: w :: v :: w :: st) sg Q) : pw tb d M pc lv (v :: w :: st) sg Q := by
  intro p l e s m args below meth c D cI cQ ad A H locs ls hc hw hl
  exact lv_dup2_11 hc.1 hc.2.1 hd (by rw [trv_cat]; exact hcat.1) (by rw [trv_cat]; exact hcat.2) (k p l e s m args below meth c D cI cQ ad A H locs ls hc hw hl)
theorem p_if_eq {x : Int32} {off : Int} {tgt : Nat} (hd : decode M.2.1 pc = .ok (.ifCond .eq off, 3)) (ht : (pc : Int) + off = (tgt : Int)) (kt : x = 0 → pw tb d M tgt lv st sg Q) (kf : ¬ x = 0 → pw tb d M (pc + 3) lv st sg Q) : pw tb d M pc lv (.int x :: st) sg Q := by
  intro p l e s m args below meth c D cI cQ ad A H locs ls hc hw hl
  exact lv_if_eq hc.1 hc.2.1 hd ht (fun z => kt z p l e s m args below meth c D cI cQ ad A H locs ls hc hw hl) (fun z => kf z p l e s m args below meth c D cI cQ ad A H locs ls hc hw hl)
theorem p_icmp_eq {x y : Int32} {off : Int} {tgt : Nat} (hd : decode M.2.1 pc = .ok (.if_icmp .eq off, 3)) (ht : (pc : Int) + off = (tgt : Int)) (kt : x = y → pw tb d M tgt lv st sg Q) (kf : ¬ x = y → pw tb d M (pc + 3) lv st sg Q) : pw tb d M pc lv (.int y :: .int x :: st) sg Q := by
  intro p l e s m args below meth c D cI cQ ad A H locs ls hc hw hl
  exact lv_icmp_eq hc.1 hc.2.1 hd ht (fun z => kt z p l e s m args below meth c D cI cQ ad A H locs ls hc hw hl) (fun z => kf z p l e s m args below meth c D cI cQ ad A H locs ls hc hw hl)
theorem p_if_ne {x : Int32} {off : Int} {tgt : Nat} (hd : decode M.2.1 pc = .ok (.ifCond .ne off, 3)) (ht : (pc : Int) + off = (tgt : Int)) (kt : ¬ x = 0 → pw tb d M tgt lv st sg Q) (kf : x = 0 → pw tb d M (pc + 3) lv st sg Q) : pw tb d M pc lv (.int x :: st) sg Q := by
  intro p l e s m args below meth c D cI cQ ad A H locs ls hc hw hl
  exact lv_if_ne hc.1 hc.2.1 hd ht (fun z => kt z p l e s m args below meth c D cI cQ ad A H locs ls hc hw hl) (fun z => kf z p l e s m args below meth c D cI cQ ad A H locs ls hc hw hl)
theorem p_icmp_ne {x y : Int32} {off : Int} {tgt : Nat} (hd : decode M.2.1 pc = .ok (.if_icmp .ne off, 3)) (ht : (pc : Int) + off = (tgt : Int)) (kt : ¬ x = y → pw tb d M tgt lv st sg Q) (kf : x = y → pw tb d M (pc + 3) lv st sg Q) : pw tb d M pc lv (.int y :: .int x :: st) sg Q := by
  intro p l e s m args below meth c D cI cQ ad A H locs ls hc hw hl
  exact lv_icmp_ne hc.1 hc.2.1 hd ht (fun z => kt z p l e s m args below meth c D cI cQ ad A H locs ls hc hw hl) (fun z => kf z p l e s m args below meth c D cI cQ ad A H locs ls hc hw hl)
theorem p_if_lt {x : Int32} {off : Int} {tgt : Nat} (hd : decode M.2.1 pc = .ok (.ifCond .lt off, 3)) (ht : (pc : Int) + off = (tgt : Int)) (kt : x < 0 → pw tb d M tgt lv st sg Q) (kf : ¬ x < 0 → pw tb d M (pc + 3) lv st sg Q) : pw tb d M pc lv (.int x :: st) sg Q := by
  intro p l e s m args below meth c D cI cQ ad A H locs ls hc hw hl
  exact lv_if_lt hc.1 hc.2.1 hd ht (fun z => kt z p l e s m args below meth c D cI cQ ad A H locs ls hc hw hl) (fun z => kf z p l e s m args below meth c D cI cQ ad A H locs ls hc hw hl)
theorem p_icmp_lt {x y : Int32} {off : Int} {tgt : Nat} (hd : decode M.2.1 pc = .ok (.if_icmp .lt off, 3)) (ht : (pc : Int) + off = (tgt : Int)) (kt : x < y → pw tb d M tgt lv st sg Q) (kf : ¬ x < y → pw tb d M (pc + 3) lv st sg Q) : pw tb d M pc lv (.int y :: .int x :: st) sg Q := by
  intro p l e s m args below meth c D cI cQ ad A H locs ls hc hw hl
  exact lv_icmp_lt hc.1 hc.2.1 hd ht (fun z => kt z p l e s m args below meth c D cI cQ ad A H locs ls hc hw hl) (fun z => kf z p l e s m args below meth c D cI cQ ad A H locs ls hc hw hl)
theorem p_if_ge {x : Int32} {off : Int} {tgt : Nat} (hd : decode M.2.1 pc = .ok (.ifCond .ge off, 3)) (ht : (pc : Int) + off = (tgt : Int)) (kt : 0 ≤ x → pw tb d M tgt lv st sg Q) (kf : ¬ 0 ≤ x → pw tb d M (pc + 3) lv st sg Q) : pw tb d M pc lv (.int x :: st) sg Q := by
  intro p l e s m args below meth c D cI cQ ad A H locs ls hc hw hl
  exact lv_if_ge hc.1 hc.2.1 hd ht (fun z => kt z p l e s m args below meth c D cI cQ ad A H locs ls hc hw hl) (fun z => kf z p l e s m args below meth c D cI cQ ad A H locs ls hc hw hl)
theorem p_icmp_ge {x y : Int32} {off : Int} {tgt : Nat} (hd : decode M.2.1 pc = .ok (.if_icmp .ge off, 3)) (ht : (pc : Int) + off = (tgt : Int)) (kt : y ≤ x → pw tb d M tgt lv st sg Q) (kf : ¬ y ≤ x → pw tb d M (pc + 3) lv st sg Q) : pw tb d M pc lv (.int y :: .int x :: st) sg Q := by
  intro p l e s m args below meth c D cI cQ ad A H locs ls hc hw hl
  exact lv_icmp_ge hc.1 hc.2.1 hd ht (fun z => kt z p l e s m args below meth c D cI cQ ad A H locs ls hc hw hl) (fun z => kf z p l e s m args below meth c D cI cQ ad A H locs ls hc hw hl)
theorem p_if_gt {x : Int32} {off : Int} {tgt : Nat} (hd : decode M.2.1 pc = .ok (.ifCond .gt off, 3)) (ht : (pc : Int) + off = (tgt : Int)) (kt : 0 < x → pw tb d M tgt lv st sg Q) (kf : ¬ 0 < x → pw tb d M (pc + 3) lv st sg Q) : pw tb d M pc lv (.int x :: st) sg Q := by
  intro p l e s m args below meth c D cI cQ ad A H locs ls hc hw hl
  exact lv_if_gt hc.1 hc.2.1 hd ht (fun z => kt z p l e s m args below meth c D cI cQ ad A H locs ls hc hw hl) (fun z => kf z p l e s m args below meth c D cI cQ ad A H locs ls hc hw hl)
theorem p_icmp_gt {x y : Int32} {off : Int} {tgt : Nat} (hd : decode M.2.1 pc = .ok (.if_icmp .gt off, 3)) (ht : (pc : Int) + off = (tgt : Int)) (kt : y < x → pw tb d M tgt lv st sg Q) (kf : ¬ y < x → pw tb d M (pc + 3) lv st sg Q) : pw tb d M pc lv (.int y :: .int x :: st) sg Q := by
  intro p l e s m args below meth c D cI cQ ad A H locs ls hc hw hl
  exact lv_icmp_gt hc.1 hc.2.1 hd ht (fun z => kt z p l e s m args below meth c D cI cQ ad A H locs ls hc hw hl) (fun z => kf z p l e s m args below meth c D cI cQ ad A H locs ls hc hw hl)
theorem p_if_le {x : Int32} {off : Int} {tgt : Nat} (hd : decode M.2.1 pc = .ok (.ifCond .le off, 3)) (ht : (pc : Int) + off = (tgt : Int)) (kt : x ≤ 0 → pw tb d M tgt lv st sg Q) (kf : ¬ x ≤ 0 → pw tb d M (pc + 3) lv st sg Q) : pw tb d M pc lv (.int x :: st) sg Q := by
  intro p l e s m args below meth c D cI cQ ad A H locs ls hc hw hl
  exact lv_if_le hc.1 hc.2.1 hd ht (fun z => kt z p l e s m args below meth c D cI cQ ad A H locs ls hc hw hl) (fun z => kf z p l e s m args below meth c D cI cQ ad A H locs ls hc hw hl)
theorem p_icmp_le {x y : Int32} {off : Int} {tgt : Nat} (hd : decode M.2.1 pc = .ok (.if_icmp .le off, 3)) (ht : (pc : Int) + off = (tgt : Int)) (kt : x ≤ y → pw tb d M tgt lv st sg Q) (kf : ¬ x ≤ y → pw tb d M (pc + 3) lv st sg Q) : pw tb d M pc lv (.int y :: .int x :: st) sg Q := by
  intro p l e s m args below meth c D cI cQ ad A H locs ls hc hw hl
  exact lv_icmp_le hc.1 hc.2.1 hd ht (fun z => kt z p l e s m args below meth c D cI cQ ad A H locs ls hc hw hl) (fun z => kf z p l e s m args below meth c D cI cQ ad A H locs ls hc hw hl)
theorem p_goto {off : Int} {tgt : Nat} (hd : decode M.2.1 pc = .ok (.goto off, 3)) (ht : (pc : Int) + off = (tgt : Int)) (k : pw tb d M tgt lv st sg Q) : pw tb d M pc lv st sg Q := by
  intro p l e s m args below meth c D cI cQ ad A H locs ls hc hw hl
  exact lv_goto hc.1 hc.2.1 hd ht (k p l e s m args below meth c D cI cQ ad A H locs ls hc hw hl)
theorem p_tabOut {dflt lo hi : Int} {offs : Array Int} {len : Nat} {x : Int32} {tgt : Nat} (hd : decode M.2.1 pc = .ok (.tableswitch dflt lo hi offs, len)) (h : x.toInt < lo ∨ hi < x.toInt) (ht : (pc : Int) + dflt = (tgt : Int)) (k : pw tb d M tgt lv st sg Q) : pw tb d M pc lv (.int x :: st) sg Q := by
  intro p l e s m args below meth c D cI cQ ad A H locs ls hc hw hl
  exact lv_tableOut hc.1 hc.2.1 hd h ht (k p l e s m args below meth c D cI cQ ad A H locs ls hc hw hl)
theorem p_tabIn {dflt lo hi : Int} {offs : Array Int} {len : Nat} {x : Int32} {off : Int} {tgt : Nat} (hd : decode M.2.1 pc = .ok (.tableswitch dflt lo hi offs, len)) (h1 : ¬ x.toInt < lo) (h2 : ¬ hi < x.toInt) (ho : offs[(x.toInt - lo).toNat]? = some off) (ht : (pc : Int) + off = (tgt : Int)) (k : pw tb d M tgt lv st sg Q) : pw tb d M pc lv (.int x :: st) sg Q := by
  intro p l e s m args below meth c D cI cQ ad A H locs ls hc hw hl
  exact lv_tableIn hc.1 hc.2.1 hd h1 h2 ho ht (k p l e s m args below meth c D cI cQ ad A H locs ls hc hw hl)
theorem p_iald {c0 n : Nat} {i : Int32} (hn : fnd tb c0 = some (.inl n)) (hin : vp_in i n) (hd : decode M.2.1 pc = .ok (.iaload, 1)) (k : pw tb d M (pc + 1) lv (.int (sg c0 i.toNatClampNeg) :: st) sg Q) : pw tb d M pc lv (.int i :: .ref c0 :: st) sg Q := by
  intro p l e s m args below meth c D cI cQ ad A H locs ls hc hw hl
  obtain ⟨k0, hk0⟩ := fnd_at hn
  exact va_iald hc.1 hc.2.1 hc.2.2.2.2.2.2.2.1 hw.1 k0 0 (wld_at hk0) rfl hin hd (k p l e s m args below meth c D cI cQ ad A H locs ls hc hw hl)
theorem p_iast {c0 n : Nat} {i x : Int32} (hn : fnd tb c0 = some (.inl n)) (hin : vp_in i n) (hd : decode M.2.1 pc = .ok (.iastore, 1)) (k : pw tb d M (pc + 1) lv st (up2 sg c0 i.toNatClampNeg x) Q) : pw tb d M pc lv (.int x :: .int i :: .ref c0 :: st) sg Q := by
  intro p l e_ s m args below meth c D cI cQ ad A H locs ls hc hw hl
  obtain ⟨k0, hk0⟩ := fnd_at hn
  refine va_iast hc.1 hc.2.1 hc.2.2.2.2.2.2.2.1 hw.1 hw.2.1 hw.2.2.1 k0 0 (wld_at hk0) rfl hin hd (fun H2 locs2 hP2 hD2 hS2 => ?_)
  have e := wld_set (cI := cI) (cQ := cQ) hw.2.1 hk0 (upd (sg c0) i.toNatClampNeg x)
  refine k p l e_ s m args below meth c D cI cQ ad A H2 locs2 ls hc ⟨?_, ?_, hS2, hw.2.2.2⟩ hl
  · rw [show up2 sg c0 i.toNatClampNeg x = upC sg c0 (upd (sg c0) i.toNatClampNeg x) from rfl, ← e]; exact hP2
  · rw [show up2 sg c0 i.toNatClampNeg x = upC sg c0 (upd (sg c0) i.toNatClampNeg x) from rfl, ← e]; exact hD2
theorem p_aald {c0 n b : Nat} {i : Int32} (hn : fnd tb c0 = some (.inr (.inl (n, b)))) (hin : vp_in i n) (hd : decode M.2.1 pc = .ok (.aaload, 1)) (k : pw tb d M (pc + 1) lv (.ref (b + i.toNatClampNeg) :: st) sg Q) : pw tb d M pc lv (.int i :: .ref c0 :: st) sg Q := by
  intro p l e s m args below meth c D cI cQ ad A H locs ls hc hw hl
  obtain ⟨k0, hk0⟩ := fnd_at hn
  have hlt : i.toNatClampNeg < n := Nat.not_le.mp fun q => hin (Or.inr q)
  exact W.aald (v := .ref (ad (b + i.toNatClampNeg))) (ty := .array .int) hc.1 hc.2.1 (hw.1 k0 _ (wld_at hk0)) ((hc.2.2.2.2.2.2.2.1.2 1 _ rfl).1 n (fun j => va_rf (some (ad (b + j))))) rfl (fun q => by cases q) (by show ¬ (i < 0 ∨ (arrV _ _ _).slots.size ≤ _); rw [arrV_size]; exact hin) (by show (arrV _ _ _).slots[_]? = _; rw [arrV_read _ _ hlt]; rfl) rfl rfl hd (k p l e s m args below meth c D cI cQ ad A H locs ls hc hw hl)
theorem p_alen {c0 n : Nat} (hn : fnd tb c0 = some (.inl n)) (hd : decode M.2.1 pc = .ok (.arraylength, 1)) (k : pw tb d M (pc + 1) lv (.int (nI n) :: st) sg Q) : pw tb d M pc lv (.ref c0 :: st) sg Q := by
  intro p l e s m args below meth c D cI cQ ad A H locs ls hc hw hl
  obtain ⟨k0, hk0⟩ := fnd_at hn
  exact va_alen hc.1 hc.2.1 hc.2.2.2.2.2.2.2.1 hw.1 k0 0 (wld_at hk0) rfl rfl hd (k p l e s m args below meth c D cI cQ ad A H locs ls hc hw hl)
/-- a field: which one of its class it is, and that the tables link it from a class's own constant -/
def fok (own : String) (idx ci k : Nat) (q : vw_C) (nest : Option String) : Prop := vwCl[ci]? = some q ∧ k < q.2.2 ∧ (∀ w ∈ u_ws q.1 q.2.1 q.2.2, w ∈ gtb) ∧ (match nest with
  | none => Cond.fieldLink own idx (q.2.1 k).1 (q.2.1 k).2.1 (q.2.1 k).2.2.1 ∈ gtb
  | some host => Cond.fieldLinkNest own idx (q.2.1 k).1 (q.2.1 k).2.1 (q.2.1 k).2.2.1 host ∈ lw_tbl)
/-- what a store wants beside -/
def fst (k : Nat) (q : vw_C) (ty : FieldType) : Prop := (q.2.1 k).2.2.2 = false ∧ parseFieldDescriptor (q.2.1 k).2.2.1 = some ty ∧ ∃ ty0 : Nat → FieldType, (∀ k, k < q.2.2 → parseFieldDescriptor (q.2.1 k).2.2.1 = some (ty0 k)) ∧ (∀ a, a < q.2.2 → ∀ b, b < q.2.2 → a ≠ b → (q.2.1 a).2.1 ≠ (q.2.1 b).2.1)
theorem p_get {idx ci k0 c0 : Nat} {q : vw_C} {nest : Option String} {fl : List (Option Nat)} {x : Option Nat} (hf : fok M.1.cls idx ci k0 q nest) (hn : fnd tb c0 = some (.inr (.inr (ci, fl)))) (hx : fl[k0]? = some x) {v : Value} (hv : (∀ ad : Nat → Nat, fvl ad x (sg c0 k0) = trv ad v)) (hd : decode M.2.1 pc = .ok (.getfield idx, 3)) (k : pw tb d M (pc + 3) lv (v :: st) sg Q) : pw tb d M pc lv (.ref c0 :: st) sg Q := by
  intro p l e s m args below meth c D cI cQ ad A H locs ls hc hw hl
  obtain ⟨kk, hkk⟩ := fnd_at hn
  obtain ⟨h1, h2, h3, h4⟩ := hf
  have hg := flds_get (ad := ad) (g := sg c0) (j := 0) hx
  rw [Nat.zero_add, hv ad] at hg
  cases nest with
  | none => exact va_get hc.1 hc.2.1 hc.2.2.2.2.2.2.1 h3 hc.2.2.2.2.2.1 hc.2.2.2.2.2.2.2.1 hw.1 kk (wld_at hkk) h1 k0 h2 (hc.2.2.2.2.2.2.1 _ h4) (fun _ h9 => h9) hg hd (k p l e s m args below meth c D cI cQ ad A H locs ls hc hw hl)
  | some host => exact va_getN hc.1 hc.2.1 hc.2.2.2.2.2.2.1 h3 hc.2.2.2.2.2.1 hc.2.2.2.2.2.2.2.1 hw.1 kk (wld_at hkk) h1 k0 h2 (va_Nw.use rfl (hc.2.2.2.2.2.2.2.2 _ h4 rfl)) (fun _ h9 => h9) hg hd (k p l e s m args below meth c D cI cQ ad A H locs ls hc hw hl)
theorem p_getI {idx ci k0 c0 : Nat} {q : vw_C} {nest : Option String} {fl : List (Option Nat)} (hf : fok M.1.cls idx ci k0 q nest) (hn : fnd tb c0 = some (.inr (.inr (ci, fl)))) (hx : fl[k0]? = some none) (hd : decode M.2.1 pc = .ok (.getfield idx, 3)) (k : pw tb d M (pc + 3) lv (.int (sg c0 k0) :: st) sg Q) : pw tb d M pc lv (.ref c0 :: st) sg Q := p_get hf hn hx (fun _ => rfl) hd k
theorem p_getR {idx ci k0 c0 c1 : Nat} {q : vw_C} {nest : Option String} {fl : List (Option Nat)} (hf : fok M.1.cls idx ci k0 q nest) (hn : fnd tb c0 = some (.inr (.inr (ci, fl)))) (hx : fl[k0]? = some (some c1)) (hd : decode M.2.1 pc = .ok (.getfield idx, 3)) (k : pw tb d M (pc + 3) lv (.ref c1 :: st) sg Q) : pw tb d M pc lv (.ref c0 :: st) sg Q := p_get hf hn hx (fun _ => rfl) hd k
theorem p_put {idx ci k0 c0 : Nat} {q : vw_C} {nest : Option String} {fl : List (Option Nat)} {ty : FieldType} {x : Int32} (hf : fok M.1.cls idx ci k0 q nest) (hg : fst k0 q ty) (hn : fnd tb c0 = some (.inr (.inr (ci, fl)))) (hx : fl[k0]? = some none) (hnr : narrow ty (.int x) = .int x) (hft : fits ty (.int x) = true) (hd : decode M.2.1 pc = .ok (.putfield idx, 3)) (k : pw tb d M (pc + 3) lv st (up2 sg c0 k0 x) Q) : pw tb d M pc lv (.int x :: .ref c0 :: st) sg Q := by
  intro p l e_ s m args below meth c D cI cQ ad A H locs ls hc hw hl
  obtain ⟨kk, hkk⟩ := fnd_at hn
  obtain ⟨h1, h2, h3, h4⟩ := hf
  obtain ⟨g1, g2, ty0, g3, g4⟩ := hg
  have hlen : k0 < (flds ad fl 0 (sg c0)).length := by rw [flds_len]; exact (List.getElem?_eq_some_iff.mp hx).1
  have hset := flds_set (ad := ad) (g := sg c0) (v := x) (j := 0) hx
  rw [Nat.zero_add] at hset
  have e := wld_set (cI := cI) (cQ := cQ) hw.2.1 hkk (upd (sg c0) k0 x)
  have key : ∀ (H2 : Heap) (locs2 : List Loc), va_P D vwCl ((wld cI cQ ad tb sg).set kk (ad c0, .inr (ci, (flds ad fl 0 (sg c0)).set k0 (.int x)))) H2 → va_D A ((wld cI cQ ad tb sg).set kk (ad c0, .inr (ci, (flds ad fl 0 (sg c0)).set k0 (.int x)))) → va_S A s.heap H2 locs2 → W p l e_ (rmd d) s m args below meth c H2 locs2 0 0 (MQ below (pst D cI cQ ad tb A Q) args s 0 0 A) (F0 m (pc + 3) ls (st.map (trv ad))) := by
    intro H2 locs2 hP2 hD2 hS2
    rw [hset] at hP2 hD2
    refine k p l e_ s m args below meth c D cI cQ ad A H2 locs2 ls hc ⟨?_, ?_, hS2, hw.2.2.2⟩ hl
    · rw [show up2 sg c0 k0 x = upC sg c0 (upd (sg c0) k0 x) from rfl, ← e]; exact hP2
    · rw [show up2 sg c0 k0 x = upC sg c0 (upd (sg c0) k0 x) from rfl, ← e]; exact hD2
  cases nest with
  | none => exact va_put hc.1 hc.2.1 hc.2.2.2.2.2.2.1 h3 ty0 g3 g4 hc.2.2.2.2.2.1 hc.2.2.2.2.2.2.2.1 hw.1 hw.2.1 hw.2.2.1 kk (wld_at hkk) h1 k0 h2 (hc.2.2.2.2.2.2.1 _ h4) (fun _ h9 => h9) g1 g2 hnr hft hlen hd key
  | some host => exact va_putN hc.1 hc.2.1 hc.2.2.2.2.2.2.1 h3 ty0 g3 g4 hc.2.2.2.2.2.1 hc.2.2.2.2.2.2.2.1 hw.1 hw.2.1 hw.2.2.1 kk (wld_at hkk) h1 k0 h2 (va_Nw.use rfl (hc.2.2.2.2.2.2.2.2 _ h4 rfl)) (fun _ h9 => h9) g1 g2 hnr hft hlen hd key
def mnI (x y : Int32) : Int32 := if y < x then y else x
def mxI (x y : Int32) : Int32 := if x < y then y else x
theorem rmd_loc {n : Nat} : (rmd (n + 1)).locals = 40 * (n + 1) := rfl
theorem cat_le (ad : Nat → Nat) : ∀ (st : List Value), ((st.map (trv ad)).map fun v => v.category).sum = (st.map fun v => v.category).sum
  | [] => rfl
  | v :: r => by
    show (trv ad v).category + ((r.map (trv ad)).map fun v => v.category).sum = v.category + (r.map fun v => v.category).sum
    rw [trv_cat, cat_le ad r]
theorem p_min {idx : Nat} {x y : Int32} (hlk : Cond.methodLink M.1.cls idx Lib.Math.min.name ∈ gtb) (hs1 : Cond.static Lib.Math.min.name ∈ gtb) (hs2 : Cond.initialized "java/lang/Math" ∈ gtb) (hs3 : Cond.code Lib.Math.min.name Lib.Math.min.code 2 (some .int) ∈ gtb) (hst : (st.map fun v => v.category).sum ≤ 8) (hd : decode M.2.1 pc = .ok (.invokestatic idx, 3)) (k : pw tb (d + 1) M (pc + 3) lv (.int (mnI x y) :: st) sg Q) : pw tb (d + 1) M pc lv (.int y :: .int x :: st) sg Q := by
  intro p l e s m args below meth c D cI cQ ad A H locs ls hc hw hl
  exact va_mmin hc.1 hc.2.1 (hc.2.2.1.trans hl.1.symm) hc.2.2.2.2.2.1 (hc.2.2.2.2.2.2.1 _ hlk) (hc.2.2.2.2.2.2.1 _ hs1) (hc.2.2.2.2.2.2.1 _ hs2) (hc.2.2.2.2.2.2.1 _ hs3) (by show 1 ≤ d + 1; omega) (by rw [cat_le]; show _ ≤ 40 * (d + 1); omega) (Nat.le_refl _) (Nat.le_refl _) hd (k p l e s m args below meth c D cI cQ ad A H locs ls hc hw hl)
theorem p_max {idx : Nat} {x y : Int32} (hlk : Cond.methodLink M.1.cls idx Lib.Math.max.name ∈ gtb) (hs1 : Cond.static Lib.Math.max.name ∈ gtb) (hs2 : Cond.initialized "java/lang/Math" ∈ gtb) (hs3 : Cond.code Lib.Math.max.name Lib.Math.max.code 2 (some .int) ∈ gtb) (hst : (st.map fun v => v.category).sum ≤ 8) (hd : decode M.2.1 pc = .ok (.invokestatic idx, 3)) (k : pw tb (d + 1) M (pc + 3) lv (.int (mxI x y) :: st) sg Q) : pw tb (d + 1) M pc lv (.int y :: .int x :: st) sg Q := by
  intro p l e s m args below meth c D cI cQ ad A H locs ls hc hw hl
  exact va_mmax hc.1 hc.2.1 (hc.2.2.1.trans hl.1.symm) hc.2.2.2.2.2.1 (hc.2.2.2.2.2.2.1 _ hlk) (hc.2.2.2.2.2.2.1 _ hs1) (hc.2.2.2.2.2.2.1 _ hs2) (hc.2.2.2.2.2.2.1 _ hs3) (by show 1 ≤ d + 1; omega) (by rw [cat_le]; show _ ≤ 40 * (d + 1); omega) (Nat.le_refl _) (Nat.le_refl _) hd (k p l e s m args below meth c D cI cQ ad A H locs ls hc hw hl)
def cpok (tb : Sd) (a : Nat) (sp : Int32) (b : Nat) (dp n : Int32) : Bool := isA tb a && isA tb b && decide (¬ sp < 0) && decide (¬ dp < 0) && decide (¬ n < 0) && decide (sp.toNatClampNeg + n.toNatClampNeg ≤ alen tb a) && decide (dp.toNatClampNeg + n.toNatClampNeg ≤ alen tb b)
def cpy (sg : Hp) (a : Nat) (sp : Int32) (b : Nat) (dp n : Int32) : Hp := upC sg b (va_cpy (sg a) (sg b) sp.toNatClampNeg dp.toNatClampNeg n.toNatClampNeg)
theorem p_copy {idx a b : Nat} {sp dp n : Int32} (hlk : Cond.methodLink M.1.cls idx arraycopyName ∈ gtb) (hs1 : Cond.native arraycopyName ∈ gtb) (hs2 : Cond.static arraycopyName ∈ gtb) (hs3 : Cond.initialized "java/lang/System" ∈ gtb) (hst : (st.map fun v => v.category).sum ≤ 8) (hk : cpok tb a sp b dp n = true) (hd : decode M.2.1 pc = .ok (.invokestatic idx, 3)) (k : pw tb (d + 1) M (pc + 3) lv st (cpy sg a sp b dp n) Q) : pw tb (d + 1) M pc lv (.int n :: .int dp :: .ref b :: .int sp :: .ref a :: st) sg Q := by
  intro p l e_ s m args below meth c D cI cQ ad A H locs ls hc hw hl
  unfold cpok at hk
  simp only [Bool.and_eq_true, decide_eq_true_eq] at hk
  obtain ⟨⟨⟨⟨⟨⟨k1, k2⟩, k3⟩, k4⟩, k5⟩, k6⟩, k7⟩ := hk
  obtain ⟨i1, hi1⟩ := fnd_at (isA_at k1)
  obtain ⟨i2, hi2⟩ := fnd_at (isA_at k2)
  have e := wld_set (cI := cI) (cQ := cQ) hw.2.1 hi2 (va_cpy (sg a) (sg b) sp.toNatClampNeg dp.toNatClampNeg n.toNatClampNeg)
  have hnw : nativeFrameWords "java/lang/System" "arraycopy" 5 ≤ 20 := by decide +kernel
  have hcs : ((st.map (trv ad)).map fun v => v.category).sum + (nativeFrameWords "java/lang/System" "arraycopy" 5 + 11) ≤ (rmd (d + 1)).locals := by
    rw [cat_le]
    show _ ≤ 40 * (d + 1)
    omega
  have hfr : 1 ≤ (rmd (d + 1)).frames := Nat.le_add_left 1 d
  refine va_copyi hc.1 hc.2.1 (hc.2.2.1.trans hl.1.symm) hc.2.2.2.2.2.1 (hc.2.2.2.2.2.2.1 _ hlk) (hc.2.2.2.2.2.2.1 _ hs1) (hc.2.2.2.2.2.2.1 _ hs2) (hc.2.2.2.2.2.2.1 _ hs3) hc.2.2.2.2.2.2.2.1 hw.1 hw.2.1 hw.2.2.1 i1 i2 0 0 (wld_at hi1) (wld_at hi2) rfl rfl rfl k3 k4 k5 k6 k7 (fun _ _ => rfl) hfr hcs hd (fun H2 locs2 hP2 hD2 hS2 => ?_)
  refine k p l e_ s m args below meth c D cI cQ ad A H2 locs2 ls hc ⟨?_, ?_, hS2, hw.2.2.2⟩ hl
  · show va_P D vwCl (wld cI cQ ad tb (upC sg b _)) H2
    rw [← e]; exact hP2
  · show va_D A (wld cI cQ ad tb (upC sg b _))
    rw [← e]; exact hD2
theorem p_ret_ {r : Option Value} {M : Mth} {p : Program} {s : State} {m : MethodId} {args : Array Value} {meth : Method} {c : Code} {D : va_G} {cI cQ : ClassId} {ad : Nat → Nat} {A : Nat → Prop} {H : Heap} {locs : List Loc} (hc : cxt M p s m args meth c D cI cQ) (hw : wht D cI cQ ad tb A s H locs sg) (hq : Q r sg) : ∀ t : State, t.heap = H → s.WarmedH t.vm → pst D cI cQ ad tb A Q args s (.returned (r.map (trv ad))) t := fun t ht hW => ⟨⟨r, sg, rfl, hq, by rw [ht]; exact hw.1, hw.2.1⟩, hw.2.2.1.F ht⟩
theorem p_iret {x : Int32} (hr : M.2.2.2 = some .int) (hd : decode M.2.1 pc = .ok (.ireturn, 1)) (hq : Q (some (.int x)) sg) : pw tb d M pc lv [.int x] sg Q := by
  intro p l e s m args below meth c D cI cQ ad A H locs ls hc hw hl
  exact W.iret hc.1 hc.2.1 (hc.2.2.2.1.trans hr) (p_ret_ (r := some (.int x)) hc hw hq) hw.2.2.1.2.2 hd hc.2.2.2.2.1
theorem p_zret {x : Int32} {ty : FieldType} (hr : M.2.2.2 = some ty) (hn : narrow ty (.int x) = .int x) (hd : decode M.2.1 pc = .ok (.ireturn, 1)) (hq : Q (some (.int x)) sg) : pw tb d M pc lv [.int x] sg Q := by
  intro p l e s m args below meth c D cI cQ ad A H locs ls hc hw hl
  exact W.zret hc.1 hc.2.1 (hc.2.2.2.1.trans hr) hn (p_ret_ (r := some (.int x)) hc hw hq) hw.2.2.1.2.2 hd hc.2.2.2.2.1
theorem p_lret {x : Int64} (hr : M.2.2.2 = some .long) (hd : decode M.2.1 pc = .ok (.lreturn, 1)) (hq : Q (some (.long x)) sg) : pw tb d M pc lv [.long x] sg Q := by
  intro p l e s m args below meth c D cI cQ ad A H locs ls hc hw hl
  exact W.lret hc.1 hc.2.1 (hc.2.2.2.1.trans hr) (p_ret_ (r := some (.long x)) hc hw hq) hw.2.2.1.2.2 hd hc.2.2.2.2.1
theorem p_vret (hr : M.2.2.2 = none) (hd : decode M.2.1 pc = .ok (.return_, 1)) (hq : Q none sg) : pw tb d M pc lv [] sg Q := by
  intro p l e s m args below meth c D cI cQ ad A H locs ls hc hw hl
  exact W.vret hc.1 hc.2.1 (hc.2.2.2.1.trans hr) (p_ret_ (r := none) hc hw hq) hw.2.2.1.2.2 hd hc.2.2.2.2.1
theorem p_aret {x : Nat} (hr : M.2.2.2 = some (.array .int)) (hd : decode M.2.1 pc = .ok (.areturn, 1)) (hq : Q (some (.ref x)) sg) : pw tb d M pc lv [.ref x] sg Q := by
  intro p l e s m args below meth c D cI cQ ad A H locs ls hc hw hl
  exact W.aret hc.1 hc.2.1 (hc.2.2.2.1.trans hr) (Or.inr ⟨_, rfl⟩) (Or.inr ⟨ad x, rfl⟩) (p_ret_ (r := some (.ref x)) hc hw hq) hw.2.2.1.2.2 hd hc.2.2.2.2.1
end PW
