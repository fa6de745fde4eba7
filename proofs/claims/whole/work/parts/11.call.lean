/-! calls by contract, over pw -/
theorem tlv_args (ad : Nat → Nat) : ∀ (av : List Value) (i : Nat), lv_args i (av.map (trv ad)) = tlv ad (lv_args i av)
  | [], _ => rfl
  | v :: r, i => by
    show (i, trv ad v) :: lv_args (if (trv ad v).category = 2 then i + 2 else i + 1) (r.map (trv ad)) = (i, trv ad v) :: tlv ad (lv_args (if v.category = 2 then i + 2 else i + 1) r)
    rw [trv_cat, tlv_args ad r]
theorem lgsl_len (ad : Nat → Nat) : ∀ (av : List Value), (lg_sl (av.map (trv ad))).length = (lg_sl av).length
  | [] => rfl
  | v :: r => by
    have ih := lgsl_len ad r
    unfold lg_sl at ih ⊢
    rw [List.map_cons, List.flatMap_cons, List.flatMap_cons, List.length_append, List.length_append, ih, trv_cat]
    by_cases h : v.category = 2
    · simp [h]
    · simp [h]
theorem good_tbl : ∀ w ∈ gtb, goodWord w = true := fun w h => (List.mem_filter.mp h).2
theorem good_M {M : Mth} (h : Cond.code M.1 M.2.1 M.2.2.1 M.2.2.2 ∈ gtb) : GoodIn gtb (wsM M) := by
  intro w hw
  rcases List.mem_cons.mp hw with rfl | hw
  · exact ⟨h, good_of_word (good_tbl _ h)⟩
  · exact ⟨hw, good_of_word (good_tbl _ hw)⟩
abbrev wpre (D : va_G) (cI cQ : ClassId) (ad : Nat → Nat) (tb : Sd) (sg : Hp) (sz : Nat) : State → Prop := fun U => U.heap.size = sz ∧ va_P D vwCl (wld cI cQ ad tb sg) U.heap ∧ KK D cI cQ U ∧ va_D (fun _ => True) (wld cI cQ ad tb sg)
theorem met_of_pw {tb : Sd} {d : Nat} {M : Mth} {av : List Value} {sg : Hp} {Q : Option Value → Hp → Prop} (hpl : plainName M.1.cls = true) (hlen : (lg_sl av).length ≤ M.2.2.1) (h : pw tb d M 0 (lv_args 0 av) [] sg Q) (l : Launch) (D : va_G) (cI cQ : ClassId) (ad : Nat → Nat) (sz : Nat) :
    Met l M.1 (wsM M) (rmd d) (va_Pc (av.map (trv ad)) (wpre D cI cQ ad tb sg sz)) (pst D cI cQ ad tb (va_A (wld cI cQ ad tb sg) sz) Q) 0 0 (va_A (wld cI cQ ad tb sg) sz) := by
  refine Met.ofW (cc := M.2.1) (maxL := M.2.2.1) (ret := M.2.2.2) hpl rfl ?_
  intro p e s m args below meth c s₁ B hml hv
  obtain ⟨rfl, hsz, hP, hK, hD0⟩ := hv
  have hts := atoms_spec (ws := wsM M) B.pre
  have hown : s.vm.findClass M.1.cls = some m.cls := findClass_of_methodNamed B.named
  have hlocks := B.notSynchronized
  subst hsz
  have hD := hD0.self (sz := s.heap.size)
  have hl := lv_entry (av.map (trv ad)) (n := M.2.2.1) (by rw [lgsl_len]; exact hlen)
  rw [lg_entry_eq]
  rw [tlv_args] at hl
  exact h p l e s m _ below meth c D cI cQ ad _ s.heap [] _ ⟨B.exec, B.bytes, hml, B.returns, hlocks, hown, fun w hw => hts w (List.mem_cons_of_mem _ hw), hK⟩ ⟨hP, hD, va_S.rf, fun q hq => Or.inr hq⟩ hl
theorem wpre_blind {D : va_G} {cI cQ : ClassId} {ad : Nat → Nat} {tb : Sd} {sg : Hp} {sz : Nat} {av : List Value} : FrameBlind (va_Pc av (wpre D cI cQ ad tb sg sz)) := fun a U g mk q => by
  obtain ⟨q0, q1, qP, qK, qD⟩ := q
  exact ⟨q0, q1, qP, qK.call, qD⟩
def cSt (own : String) (idx : Nat) (M : Mth) (n : Nat) : Prop := Cond.methodLink own idx M.1 ∈ gtb ∧ Cond.static M.1 ∈ gtb ∧ Cond.initialized M.1.cls ∈ gtb ∧ Cond.code M.1 M.2.1 M.2.2.1 M.2.2.2 ∈ gtb ∧ plainName M.1.cls = true ∧ (M.1.cls ≠ "java/lang/invoke/MethodHandle" ∧ M.1.cls ≠ "java/lang/invoke/VarHandle" ∧ (parseMethodDescriptor M.1.desc).map (fun d => d.parameters.length) = some n) ∧ M.2.2.1 ≤ 21
def cVt (own : String) (idx : Nat) (M : Mth) (n : Nat) : Prop := Cond.methodLink own idx M.1 ∈ gtb ∧ Cond.instanceMethod M.1 ∈ gtb ∧ Cond.selects M.1.cls M.1 M.1 ∈ gtb ∧ Cond.initialized M.1.cls ∈ gtb ∧ Cond.code M.1 M.2.1 M.2.2.1 M.2.2.2 ∈ gtb ∧ plainName M.1.cls = true ∧ (M.1.cls ≠ "java/lang/invoke/MethodHandle" ∧ M.1.cls ≠ "java/lang/invoke/VarHandle" ∧ (parseMethodDescriptor M.1.desc).map (fun d => d.parameters.length) = some n) ∧ M.2.2.1 ≤ 21
section PCALL
variable {tb : Sd} {d : Nat} {M : Mth} {pc : Nat} {lv : List (Nat × Value)} {st : List Value} {sg : Hp} {Q : Option Value → Hp → Prop}
theorem p_back {p : Program} {l : Launch} {e : Env} {s : State} {m : MethodId} {args : Array Value} {below : List Frame} {meth : Method} {c : Code} {D : va_G} {cI cQ : ClassId} {ad : Nat → Nat} {A : Nat → Prop} {H : Heap} {locs : List Loc} {ls : Array Slot} {st0 : List Value} {a : Array Value} {Q2 : Option Value → Hp → Prop} (hc : cxt M p s m args meth c D cI cQ) (hw : wht D cI cQ ad tb A s H locs sg) (hl : lv_has ls M.2.2.1 (tlv ad lv))
    (hr : va_Run p l e (rmd d) s m args below meth c H locs 0 0 0 0 (F0 m pc ls st0) (st.map (trv ad)) (pst D cI cQ ad tb (va_A (wld cI cQ ad tb sg) H.size) Q2 a) (va_A (wld cI cQ ad tb sg) H.size))
    (k : ∀ (r : Option Value) (sg2 : Hp), Q2 r sg2 → pw tb d M (pc + 3) lv (r.toList ++ st) sg2 Q) :
    W p l e (rmd d) s m args below meth c H locs 0 0 (MQ below (pst D cI cQ ad tb A Q) args s 0 0 A) (F0 m pc ls st0) := by
  intro T hT X
  obtain ⟨v, s0, t, T', L, h0, X', hL, e1, e2, ⟨⟨r, sg2, hv, hq, hP2, hD2⟩, hz, hk⟩, stp⟩ := hr T hT X
  have hAA : ∀ q : Nat, va_A (wld cI cQ ad tb sg) H.size q → A q := fun q hq => by
    rcases hq with ⟨k9, e9, h9⟩ | h9
    · exact hw.2.1.2 k9 _ h9
    · exact hw.2.2.2 q (Nat.le_trans hw.2.2.1.1 h9)
  have hv2 : v = r.map (trv ad) := by injection hv
  subst hv2
  rw [h0] at hz hk
  have hS2 : va_S A s.heap T'.heap (locs ++ L) := ⟨Nat.le_trans hw.2.2.1.1 (by rw [e1]; exact hz), fun q h1 h2 => by
      rw [e1, hk q (Nat.lt_of_lt_of_le h1 hw.2.2.1.1) (fun z => h2 (hAA q z))]
      exact hw.2.2.1.2.1 q h1 h2, fun q hq => by
      rcases List.mem_append.mp hq with h | h
      · exact hw.2.2.1.2.2 q h
      · exact hAA _ (hL q h)⟩
  have K := k r sg2 hq p l e s m args below meth c D cI cQ ad A T'.heap (locs ++ L) ls hc ⟨by rw [e1]; exact hP2, hD2.weaken (fun _ _ _ h => hAA _ h), hS2, hw.2.2.2⟩ hl
  have hst : (r.toList ++ st).map (trv ad) = (r.map (trv ad)).toList ++ st.map (trv ad) := by
    cases r <;> rfl
  rw [hst] at K
  obtain ⟨t2, a1, b1⟩ := K T' rfl X'
  exact ⟨t2, stp t2 a1, b1⟩
theorem p_callS {idx n : Nat} {M2 : Mth} {av : List Value} {Q2 : Option Value → Hp → Prop} (hm : cSt M.1.cls idx M2 n) (hn : av.length = n) (hlen : (lg_sl av).length ≤ M2.2.2.1) (hst : (st.map fun v => v.category).sum ≤ 8) (hd : decode M.2.1 pc = .ok (.invokestatic idx, 3)) (hb : pw tb d M2 0 (lv_args 0 av) [] sg Q2)
    (k : ∀ (r : Option Value) (sg2 : Hp), Q2 r sg2 → pw tb (d + 1) M (pc + 3) lv (r.toList ++ st) sg2 Q) : pw tb (d + 1) M pc lv (av.reverse ++ st) sg Q := by
  intro p l e s m args below meth c D cI cQ ad A H locs ls hc hw hl
  obtain ⟨m1, m2, m3, m4, m5, m6, m7⟩ := hm
  obtain ⟨hx, hbb, hml, hret, hlk, hown, hts, hK⟩ := id hc
  have cw := callB_of (R := rmd (d + 1)) (mc := 0) (ms := 0) n hts (good_M m4) rfl (rm := rmd d) rfl rfl (hts _ m3) (hts _ m1) m6 ⟨Nat.le_refl _, by show 8 + (M2.2.2.1 + 11) + 40 * d ≤ 40 * (d + 1); omega⟩
  refine p_back hc hw hl (va_runS (As := av.map (trv ad)) (rest := st.map (trv ad)) ⟨hx, hbb, hml, hown, hts⟩ (met_of_pw m5 hlen hb l D cI cQ ad H.size) ⟨cw, hts _ m2⟩ ⟨wpre_blind, fun U hU hW => ⟨rfl, by rw [hU], by rw [hU]; exact hw.1, KK.warm hW hK, hw.2.1.weaken (fun _ _ _ _ => trivial)⟩⟩ rfl (by rw [List.length_map]; exact hn) hl.1 (by show List.map (trv ad) (av.reverse ++ st) = _; rw [List.map_append, List.map_reverse]) ?_ hd ⟨Nat.le_refl _, Nat.le_refl _⟩) k
  exact lv_room (by rw [cat_le]; exact hst)
theorem p_callV {idx n c0 ci : Nat} {fl : List (Option Nat)} {q : vw_C} {M2 : Mth} {av : List Value} {Q2 : Option Value → Hp → Prop} (hm : cVt M.1.cls idx M2 n) (hn : av.length = n) (hsh : fnd tb c0 = some (.inr (.inr (ci, fl)))) (hq : vwCl[ci]? = some q) (hqc : q.1 = M2.1.cls) (hlen : (lg_sl (.ref c0 :: av)).length ≤ M2.2.2.1) (hst : (st.map fun v => v.category).sum ≤ 8) (hd : decode M.2.1 pc = .ok (.invokevirtual idx, 3)) (hb : pw tb d M2 0 (lv_args 0 (.ref c0 :: av)) [] sg Q2)
    (k : ∀ (r : Option Value) (sg2 : Hp), Q2 r sg2 → pw tb (d + 1) M (pc + 3) lv (r.toList ++ st) sg2 Q) : pw tb (d + 1) M pc lv (av.reverse ++ .ref c0 :: st) sg Q := by
  intro p l e s m args below meth c D cI cQ ad A H locs ls hc hw hl
  obtain ⟨m1, m2, m3, m4, m5, m6, m7, m8⟩ := hm
  obtain ⟨hx, hbb, hml, hret, hlk, hown, hts, hK⟩ := id hc
  have cw := callB_of (R := rmd (d + 1)) (mc := 0) (ms := 0) n hts (good_M m5) rfl (rm := rmd d) rfl rfl (hts _ m4) (hts _ m1) m7 ⟨Nat.le_refl _, by show 8 + (M2.2.2.1 + 11) + 40 * d ≤ 40 * (d + 1); omega⟩
  obtain ⟨k0, hk0⟩ := fnd_at hsh
  have hrec := va_recv hK.1 hw.1 hq (wld_at hk0)
  rw [hqc] at hrec
  refine p_back hc hw hl (va_runV (As := av.map (trv ad)) (rest := st.map (trv ad)) ⟨hx, hbb, hml, hown, hts⟩ (met_of_pw m6 hlen hb l D cI cQ ad H.size) ⟨cw, hts _ m2, hts _ m3⟩ ⟨wpre_blind, hrec, fun U hU hW => ⟨rfl, by rw [hU], by rw [hU]; exact hw.1, KK.warm hW hK, hw.2.1.weaken (fun _ _ _ _ => trivial)⟩⟩ rfl (by rw [List.length_map]; exact hn) hl.1 (by show List.map (trv ad) (av.reverse ++ .ref c0 :: st) = _; rw [List.map_append, List.map_reverse]; rfl) ?_ hd ⟨Nat.le_refl _, Nat.le_refl _⟩) k
  exact lv_room (by rw [cat_le]; exact hst)
end PCALL
/-! pure answers: none where a row's index would be wrong -/
def ok {ρ : Type} (j : ρ → Option Value) (o : Option (ρ × Hp)) (Q : Option Value → Hp → Prop) : Prop := ∃ (r : ρ) (s2 : Hp), o = some (r, s2) ∧ Q (j r) s2
def jI : Int32 → Option Value := fun x => some (.int x)
def jL : Int64 → Option Value := fun x => some (.long x)
def jA : Nat → Option Value := fun x => some (.ref x)
def jV : Unit → Option Value := fun _ => none
def gd {α : Type} (b : Bool) (o : Option α) : Option α := bif b then o else none
def bnd {ρ ρ2 : Type} (o : Option (ρ × Hp)) (k : ρ → Hp → Option (ρ2 × Hp)) : Option (ρ2 × Hp) := match o with
  | some q => k q.1 q.2
  | none => none
def inb (i : Int32) (n : Nat) : Bool := decide (¬ (i < 0 ∨ n ≤ i.toNatClampNeg))
def b01 (x : Int32) : Bool := x == 0 || x == 1
theorem ok_g {ρ : Type} {j : ρ → Option Value} {b : Bool} {o : Option (ρ × Hp)} {Q : Option Value → Hp → Prop} (h : ok j (gd b o) Q) : b = true ∧ ok j o Q := by
  cases b with
  | true => exact ⟨rfl, h⟩
  | false => obtain ⟨r, s2, h1, -⟩ := h; cases h1
theorem ok_t {ρ : Type} {j : ρ → Option Value} {c : Prop} [Decidable c] {a b : Option (ρ × Hp)} {Q : Option Value → Hp → Prop} (hc : c) (h : ok j (if c then a else b) Q) : ok j a Q := by rw [if_pos hc] at h; exact h
theorem ok_f {ρ : Type} {j : ρ → Option Value} {c : Prop} [Decidable c] {a b : Option (ρ × Hp)} {Q : Option Value → Hp → Prop} (hc : ¬ c) (h : ok j (if c then a else b) Q) : ok j b Q := by rw [if_neg hc] at h; exact h
theorem ok_b {ρ ρ2 : Type} {j : ρ → Option Value} {j2 : ρ2 → Option Value} {o : Option (ρ2 × Hp)} {k : ρ2 → Hp → Option (ρ × Hp)} {Q : Option Value → Hp → Prop} (h : ok j (bnd o k) Q) : ok j2 o (fun r s2 => ∃ x : ρ2, r = j2 x ∧ ok j (k x s2) Q) := by
  obtain ⟨r, s2, h1, h2⟩ := h
  cases o with
  | none => cases h1
  | some q => exact ⟨q.1, q.2, rfl, q.1, rfl, r, s2, h1, h2⟩
theorem ok_r {ρ : Type} {j : ρ → Option Value} {r : ρ} {s2 : Hp} {Q : Option Value → Hp → Prop} (h : ok j (some (r, s2)) Q) : Q (j r) s2 := by
  obtain ⟨r2, s3, h1, h2⟩ := h
  cases h1
  exact h2
theorem inb_in {i : Int32} {n : Nat} (h : inb i n = true) : vp_in i n := by
  unfold inb at h
  unfold vp_in
  exact of_decide_eq_true h
theorem isA_in {tb : Sd} {c : Nat} {i : Int32} (h : inb i (alen tb c) = true) : fnd tb c = some (.inl (alen tb c)) := by
  apply isA_at
  cases hq : isA tb c with
  | true => rfl
  | false =>
    have hz : alen tb c = 0 := by
      unfold isA at hq
      unfold alen
      split at hq
      · cases hq
      · rfl
    rw [hz] at h
    exact absurd (Or.inr (Nat.zero_le _)) (inb_in h)
theorem b01_n {x : Int32} (h : b01 x = true) : narrow .boolean (.int x) = .int x ∧ fits .boolean (.int x) = true := by
  unfold b01 at h
  simp only [Bool.or_eq_true, beq_iff_eq] at h
  rcases h with rfl | rfl <;> decide +kernel
def lsub (lv : List (Nat × Value)) : List Nat → List (Nat × Value)
  | [] => []
  | i :: r => match lget lv i with
    | some v => (i, v) :: lsub lv r
    | none => lsub lv r
theorem lsub_in {lv : List (Nat × Value)} {q : Nat × Value} : ∀ {is : List Nat}, q ∈ lsub lv is → q ∈ lv
  | [], h => by simp [lsub] at h
  | i :: r, h => by
    unfold lsub at h
    cases hg : lget lv i with
    | none => rw [hg] at h; exact lsub_in h
    | some v =>
      rw [hg] at h
      rcases List.mem_cons.mp h with rfl | h
      · exact lget_mem hg
      · exact lsub_in h
theorem p_lv {tb : Sd} {d : Nat} {M : Mth} {pc : Nat} {lv lv2 : List (Nat × Value)} {st : List Value} {sg : Hp} {Q : Option Value → Hp → Prop} (is : List Nat) (h : lsub lv is = lv2) (k : pw tb d M pc lv2 st sg Q) : pw tb d M pc lv st sg Q := by
  intro p l e s m args below meth c D cI cQ ad A H locs ls hc hw hl
  refine k p l e s m args below meth c D cI cQ ad A H locs ls hc hw ⟨hl.1, hl.2.1, fun q hq => ?_⟩
  obtain ⟨z, hz, rfl⟩ := List.mem_map.mp hq
  rw [← h] at hz
  exact hl.2.2 _ (List.mem_map.mpr ⟨z, lsub_in hz, rfl⟩)
theorem tab_out4 {x : Int32} (h0 : ¬ x = 0) (h1 : ¬ x = 1) (h2 : ¬ x = 2) (h3 : ¬ x = 3) : x.toInt < 0 ∨ 3 < x.toInt := by
  have e0 : ¬ x.toInt = 0 := fun e => h0 (Int32.toInt_inj.mp e)
  have e1 : ¬ x.toInt = 1 := fun e => h1 (Int32.toInt_inj.mp e)
  have e2 : ¬ x.toInt = 2 := fun e => h2 (Int32.toInt_inj.mp e)
  have e3 : ¬ x.toInt = 3 := fun e => h3 (Int32.toInt_inj.mp e)
  omega
