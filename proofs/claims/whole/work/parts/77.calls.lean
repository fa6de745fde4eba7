/-! Arrays.fill over one row; constructors by contract -/
theorem fill_l {t1 : Sd} {d n a : Nat} {x : Int32} {sg : Hp} (hn : fnd t1 a = some (.inl n)) (h9 : n < 2 ^ 31) : ∀ (k t : Nat), t + k = n → pw t1 d mJ7_fill_53178 5 [(0, .ref a), (1, .int x), (2, .int (nI t)), (3, .int (nI n))] [] (fil sg a (fun _ => x) t) (fun r s2 => r = none ∧ s2 = fil sg a (fun _ => x) n)
  | 0, t, h => by
    have h : t = n := h
    subst h
    refine p_iload_n rfl dJ7_fill_53178_5 ?_
    refine p_iload_n rfl dJ7_fill_53178_6 ?_
    refine p_icmp_ge (tgt := 20) dJ7_fill_53178_7 (by decide) (fun hc => ?_) (fun hc => absurd (Int32.le_refl _) hc)
    exact p_vret rfl dJ7_fill_53178_20 ⟨rfl, rfl⟩
  | k + 1, t, h => by
    have ht : t < n := by omega
    refine p_iload_n rfl dJ7_fill_53178_5 ?_
    refine p_iload_n rfl dJ7_fill_53178_6 ?_
    refine p_icmp_ge (tgt := 20) dJ7_fill_53178_7 (by decide) (fun hc => absurd hc (nI_ge ht h9)) (fun hc => ?_)
    refine p_aload_n rfl dJ7_fill_53178_10 ?_
    refine p_iload_n rfl dJ7_fill_53178_11 ?_
    refine p_iload_n rfl dJ7_fill_53178_12 ?_
    refine p_iast hn (inb_in (inbN ht h9)) dJ7_fill_53178_13 ?_
    refine p_iinc (w := 1) (by decide) rfl (Nat.le_of_ble_eq_true rfl) rfl dJ7_fill_53178_14 ?_
    refine p_goto (tgt := 5) dJ7_fill_53178_17 (by decide) ?_
    rw [nI_clamp (show t < 2 ^ 31 by omega), fil_up rfl, nI_1]
    exact fill_l hn h9 k (t + 1) (by omega)
theorem fill_t {t1 : Sd} {d n a : Nat} {x : Int32} {sg : Hp} (hn : fnd t1 a = some (.inl n)) (h9 : n < 2 ^ 31) : pw t1 d mJ7_fill_53178 0 (lv_args 0 [.ref a, .int x]) [] sg (fun r s2 => r = none ∧ s2 = fil sg a (fun _ => x) n) := by
  show pw _ _ _ _ [(0, .ref a), (1, .int x)] [] _ _
  refine p_iconst (v := 0) (by decide) dJ7_fill_53178_0 ?_
  refine p_istore_n (Nat.le_of_ble_eq_true rfl) rfl dJ7_fill_53178_1 ?_
  refine p_aload_n rfl dJ7_fill_53178_2 ?_
  refine p_alen hn dJ7_fill_53178_3 ?_
  refine p_istore_n (Nat.le_of_ble_eq_true rfl) rfl dJ7_fill_53178_4 ?_
  have h := fill_l (d := d) (x := x) (sg := sg) hn h9 n 0 (by omega)
  rw [fil_0, nI_0] at h
  exact p_lv [0, 1, 2, 3] rfl h
/-- the state that a new pair stands in -/
def ini : Hp := fun b j => if b = 10 ∨ b = 311 then -9 else if b = 25 ∨ b = 320 then -1 else if b = 5 ∧ j = 7 then -1 else 0
def zer : Hp := fun _ _ => 0
def rmi (d mc ms : Nat) : Room := { frames := d, cells := mc, slots := ms, locals := 40 * d }
abbrev ipre (D : va_G) (cI cQ : ClassId) (h0 ci : Nat) (vals : List Value) (sz : Nat) : State → Prop := fun U => U.heap.size = sz ∧ va_P D vwCl [(h0, .inr (ci, vals))] U.heap ∧ KK D cI cQ U ∧ ovr U ∧ va_D (fun _ => True) [(h0, .inr (ci, vals))]
def ipst (D : va_G) (cI cQ : ClassId) (c0 h0 : Nat) (t1 : Sd) (A : Nat → Prop) : Array Value → State → Outcome → State → Prop := fun _ st oc t => (∃ ad : Nat → Nat, ad c0 = h0 ∧ oc = .returned none ∧ va_P D vwCl (wld cI cQ ad t1 ini) t.heap ∧ va_D A (wld cI cQ ad t1 ini)) ∧ va_F A st t
/-- a constructor's contract: out of an object with nothing in it, the cells of t1 as a new pair has them -/
def cti (M : Mth) (d mc ms c0 ci : Nat) (vals : List Value) (t1 : Sd) : Prop := ∀ (l : Launch) (D : va_G) (cI cQ : ClassId) (h0 sz : Nat), Met l M.1 (wsM M) (rmi d mc ms) (va_Pc [.ref h0] (ipre D cI cQ h0 ci vals sz)) (ipst D cI cQ c0 h0 t1 (va_A [(h0, .inr (ci, vals))] sz)) mc ms (va_A [(h0, .inr (ci, vals))] sz)
theorem ipre_blind {D : va_G} {cI cQ : ClassId} {h0 ci sz : Nat} {vals : List Value} {av : List Value} : FrameBlind (va_Pc av (ipre D cI cQ h0 ci vals sz)) := fun a U g mk q => by
  obtain ⟨q0, q1, qP, qK, qO, qD⟩ := q
  exact ⟨q0, q1, qP, qK.call, ovr.moved (U := U.calling g mk a) (Vm.Alike.refl U.vm) qO, qD⟩
theorem met_of_gw {M : Mth} {d mc ms c0 ci : Nat} {vals : List Value} {t1 : Sd} {sg0 : Hp} (hpl : plainName M.1.cls = true) (hnm : M.1.name = "<init>") (hlen : 1 ≤ M.2.2.1) (hcl : ∀ ad : Nat → Nat, vals.map (trv ad) = vals)
    (hb : ∀ (p : Program) (l : Launch) (e : Env) (s : State) (m : MethodId) (below : List Frame) (meth : Method) (c : Code) (D : va_G) (cI cQ : ClassId) (A : Nat → Prop) (h0 : Nat) (ad : Nat → Nat), cxt M p s m #[.ref h0] meth c D cI cQ → ovr s → meth.name = "<init>" → (∀ q : Nat, s.heap.size ≤ q → A q) → ad c0 = h0 → gw M p l e (rmi d mc ms) s m #[.ref h0] below meth c D cI cQ A (MQ below (ipst D cI cQ c0 h0 t1 A) #[.ref h0] s mc ms A) [(c0, ci, vals)] ad [] 0 0 0 [(0, .ref c0)] [] sg0) : cti M d mc ms c0 ci vals t1 := by
  intro l D cI cQ h0 sz
  refine Met.ofW (cc := M.2.1) (maxL := M.2.2.1) (ret := M.2.2.2) hpl rfl ?_
  intro p e s m args below meth c s₁ B hml hv
  obtain ⟨rfl, hsz, hP, hK, hO, hD0⟩ := hv
  have hts := atoms_spec (ws := wsM M) B.pre
  have hown : s.vm.findClass M.1.cls = some m.cls := findClass_of_methodNamed B.named
  have hin : meth.name = "<init>" := (name_of_methodNamed B.named B.method).1.trans hnm
  have hlocks := B.notSynchronized
  subst hsz
  have hD := hD0.self (sz := s.heap.size)
  have hl := lv_entry [Value.ref h0] (n := M.2.2.1) hlen
  rw [lg_entry_eq]
  have eW : rawW (fun _ => h0) [(c0, ci, vals)] ++ wld cI cQ (fun _ => h0) [] sg0 = [((h0, Sum.inr (ci, vals)) : Nat × va_E)] := by
    show [((h0, Sum.inr (ci, vals.map (trv (fun _ => h0)))) : Nat × va_E)] = _
    rw [hcl]
  exact hb p l e s m below meth c D cI cQ _ h0 (fun _ => h0) ⟨B.exec, B.bytes, hml, B.returns, hlocks, hown, fun w hw => hts w (List.mem_cons_of_mem _ hw), hK⟩ hO hin (fun q hq => Or.inr hq) rfl s.heap [] _ (by rw [eW]; exact hP) (by rw [eW]; exact hD) va_S.rf hl
/-! what a cell is depends on its own places alone -/
def rq (q : Nat × Shp) (g h : Nat → Int32) : Prop := match q.2 with
  | .inl n => ∀ j, j < n → g j = h j
  | .inr (.inl _) => True
  | .inr (.inr z) => ∀ j, j < z.2.length → g j = h j
theorem flds_rg {ad : Nat → Nat} {g h : Nat → Int32} : ∀ {fl : List (Option Nat)} {i : Nat}, (∀ j, i ≤ j → j < i + fl.length → g j = h j) → flds ad fl i g = flds ad fl i h
  | [], _, _ => rfl
  | y :: r, i, e => by
    show fvl ad y (g i) :: flds ad r (i + 1) g = fvl ad y (h i) :: flds ad r (i + 1) h
    rw [e i (Nat.le_refl i) (by simp), flds_rg (fl := r) (i := i + 1) (fun j h1 h2 => e j (by omega) (by simp only [List.length_cons]; omega))]
theorem rq_at {D : va_G} {cI cQ : ClassId} {ad : Nat → Nat} {H : Heap} {q : Nat × Shp} {g h : Nat → Int32} (hr : rq q g h) (hP : va_at D vwCl (ad q.1, cel cI cQ ad q.2 g) H) : va_at D vwCl (ad q.1, cel cI cQ ad q.2 h) H := by
  obtain ⟨c, sh⟩ := q
  rcases sh with n | z | z
  · have e : vp_cell cI (n, .inl h) = vp_cell cI (n, .inl g) := by
      rw [vp_cell_i, vp_cell_i]
      exact arrV_cg (fun j hj => by rw [(show ∀ j, j < n → g j = h j from hr) j hj])
    show H[ad c]? = some (vp_cell cI (n, .inl h))
    rw [e]
    exact hP
  · exact hP
  · have e : flds ad z.2 0 g = flds ad z.2 0 h := flds_rg (fun j _ h2 => (show ∀ j, j < z.2.length → g j = h j from hr) j (by omega))
    show va_at D vwCl (ad c, .inr (z.1, flds ad z.2 0 h)) H
    rw [← e]
    exact hP
theorem rq_W {D : va_G} {cI cQ : ClassId} {ad : Nat → Nat} {H : Heap} {tb : Sd} {sg sg2 : Hp} (hr : ∀ q, q ∈ tb → rq q (sg q.1) (sg2 q.1)) (hP : va_P D vwCl (wld cI cQ ad tb sg) H) : va_P D vwCl (wld cI cQ ad tb sg2) H := wld_P.2 (fun q hq => rq_at (hr q hq) (wld_P.1 hP q hq))
theorem rq_rf {q : Nat × Shp} {g : Nat → Int32} : rq q g g := by
  obtain ⟨c, sh⟩ := q
  rcases sh with n | z | z
  · exact fun _ _ => rfl
  · trivial
  · exact fun _ _ => rfl
section GI
variable {M : Mth} {p : Program} {l : Launch} {e : Env} {R : Room} {s : State} {m : MethodId} {args : Array Value} {below : List Frame} {meth : Method} {c : Code} {D : va_G} {cI cQ : ClassId} {A : Nat → Prop} {Z : State → Prop} {X : List (Nat × Nat × List Value)} {ad : Nat → Nat} {tb : Sd} {mc ms pc : Nat} {lv : List (Nat × Value)} {st : List Value} {sg : Hp} {c0 h0 : Nat}
/-- a constructor's end -/
theorem g_vreti (hc : cxt M p s m args meth c D cI cQ) {ci : Nat} {vals : List Value} {fl : List (Option Nat)} (hret : M.2.2.2 = none) (h0e : ad c0 = h0) (hv : vals.map (trv ad) = flds ad fl 0 (ini c0)) (hr : ∀ q, q ∈ tb → rq q (sg q.1) (ini q.1)) (hd : decode M.2.1 pc = .ok (.return_, 1)) : gw M p l e R s m args below meth c D cI cQ A (MQ below (ipst D cI cQ c0 h0 ((c0, .inr (.inr (ci, fl))) :: tb) A) args s mc ms A) [(c0, ci, vals)] ad tb mc ms pc lv [] sg := by
  intro H locs ls hP hD hS hl
  have e1 : (wld cI cQ ad ((c0, .inr (.inr (ci, fl))) :: tb) ini) = (ad c0, .inr (ci, vals.map (trv ad))) :: wld cI cQ ad tb ini := by
    rw [hv]
    rfl
  refine W.vret hc.1 hc.2.1 (hc.2.2.2.1.trans hret) (fun t ht hW => ⟨⟨ad, h0e, rfl, ?_, ?_⟩, hS.F ht⟩) hS.2.2 hd hc.2.2.2.2.1
  · rw [e1, ht]
    exact (vaP_l hP).app (rq_W hr (vaP_r hP))
  · rw [e1]
    have h := vaD_iff.1 hD
    refine vaD_iff.2 ?_
    have e2 : (((ad c0, .inr (ci, vals.map (trv ad))) :: wld cI cQ ad tb ini : va_W)).map Prod.fst = (rawW ad [(c0, ci, vals)] ++ wld cI cQ ad tb sg).map Prod.fst := by
      rw [List.map_append, List.map_cons, wld_f, wld_f]
      rfl
    rw [e2]
    exact h
/-- Arrays.fill of one row -/
theorem g_fill (hc : cxt M p s m args meth c D cI cQ) (hA : ∀ q : Nat, s.heap.size ≤ q → A q) {ta tz : Sd} {c1 n idx d : Nat} {x : Int32} (htb : tb = ta ++ (c1, .inl n) :: tz) (hnd : (kys ta ++ kys tz).contains c1 = false) (h9 : n < 2 ^ 31) (hm : cSt M.1.cls idx mJ7_fill_53178 2) (hR1 : d + 1 ≤ R.frames) (hR2 : 23 + 40 * d ≤ R.locals) (hR3 : mc ≤ R.cells) (hR4 : ms ≤ R.slots) (hst : (st.map fun v => v.category).sum ≤ 8) (hd : decode M.2.1 pc = .ok (.invokestatic idx, 3)) (k : gw M p l e R s m args below meth c D cI cQ A Z X ad tb mc ms (pc + 3) lv st (fil sg c1 (fun _ => x) n)) : gw M p l e R s m args below meth c D cI cQ A Z X ad tb mc ms pc lv (.int x :: .ref c1 :: st) sg := by
  intro H locs ls hP hD hS hl
  obtain ⟨m1, m2, m3, m4, m5, m6, m7⟩ := hm
  obtain ⟨hx, hbb, hml, hret, hlk, hown, hts, hK⟩ := id hc
  have pm : ∀ sg : Hp, (rawW ad X ++ wld cI cQ ad tb sg).Perm ((rawW ad X ++ (wld cI cQ ad ta sg ++ wld cI cQ ad tz sg)) ++ wld cI cQ ad [(c1, .inl n)] sg) := fun sg => by
    rw [htb, show ta ++ (c1, .inl n) :: tz = ta ++ ([(c1, .inl n)] ++ tz) from rfl, wld_app, wld_app, List.append_assoc]
    refine List.Perm.append_left _ ?_
    rw [List.append_assoc]
    exact List.Perm.append_left _ List.perm_append_comm
  have hP0 := vaP_pm (pm sg) hP
  have hD0 := vaD_pm (pm sg) hD
  have hP1 := vaP_r hP0
  have hD1 := vaD_r hD0
  have cw := callB_of (R := R) (mc := 0) (ms := 0) 2 hts (good_M m4) rfl (rm := rmd d) rfl rfl (hts _ m3) (hts _ m1) m6 ⟨hR1, hR2⟩
  have hr := va_runS (R := R) (l := l) (e := e) (below := below) (meth := meth) (locs := locs) (cells := mc) (slots := ms) (g := F0 m pc ls ((.int x :: .ref c1 :: st).map (trv ad))) (As := [Value.ref c1, .int x].map (trv ad)) (rest := st.map (trv ad)) ⟨hx, hbb, hml, hown, hts⟩ (met_of_pw m5 (Nat.le_of_ble_eq_true rfl) (fill_t (t1 := [(c1, .inl n)]) (d := d) (a := c1) (x := x) (sg := sg) (by simp [fnd]) h9) l D cI cQ ad H.size) ⟨cw, hts _ m2⟩ ⟨wpre_blind, fun U hU hW => ⟨rfl, by rw [hU], by rw [hU]; exact hP1, KK.warm hW hK, hD1.weaken (fun _ _ _ _ => trivial)⟩⟩ rfl rfl hl.1 rfl (lv_room (by rw [cat_le]; exact hst)) hd ⟨hR3, hR4⟩
  intro T hT X0
  obtain ⟨v, s0, t, T', L, h0, X', hL, e1, e2, ⟨⟨r, sg2, hv, ⟨hq1, hq2⟩, hP2, hD2⟩, hz, hk⟩, stp⟩ := hr T hT X0
  subst hq1
  subst hq2
  have hAA : ∀ q : Nat, va_A (wld cI cQ ad [(c1, .inl n)] sg) H.size q → A q := fun q hq => by
    rcases hq with ⟨k9, e9, h9⟩ | h9
    · exact hD1.2 k9 _ h9
    · exact hA q (Nat.le_trans hS.1 h9)
  have hv2 : v = none := by injection hv
  subst hv2
  rw [h0] at hz hk
  have hS2 : va_S A s.heap T'.heap (locs ++ L) := ⟨Nat.le_trans hS.1 (by rw [e1]; exact hz), fun q h1 h2 => by
      rw [e1, hk q (Nat.lt_of_lt_of_le h1 hS.1) (fun z => h2 (hAA q z))]
      exact hS.2.1 q h1 h2, fun q hq => by
      rcases List.mem_append.mp hq with h | h
      · exact hS.2.2 q h
      · exact hAA _ (hL q h)⟩
  obtain ⟨j1, j2⟩ := jn hP0 hD0 hk hAA hP2 hD2
  have hnd2 : ∀ b, b ∈ kys ta ++ kys tz → sg b = fil sg c1 (fun _ => x) n b := fun b hb => by
    funext j
    rw [fil_out (Or.inl (fun z => by
      rw [z] at hb
      have : (kys ta ++ kys tz).contains c1 = true := by simpa using hb
      rw [hnd] at this
      cases this))]
  rw [wld_cong (tb := ta) (fun b hb => hnd2 b (List.mem_append_left _ hb)), wld_cong (tb := tz) (fun b hb => hnd2 b (List.mem_append_right _ hb))] at j1 j2
  have K := k T'.heap (locs ++ L) ls (by rw [e1]; exact vaP_pm (pm _).symm j1) (vaD_pm (pm _).symm j2) hS2 hl
  obtain ⟨t2, a1, b1⟩ := K T' rfl X'
  exact ⟨t2, stp t2 a1, b1⟩
end GI
