/-! a call of a constructor -/
def cIt (own : String) (idx : Nat) (M : Mth) (nest : Option String) : Prop := (match nest with
  | none => Cond.methodLink own idx M.1 ∈ gtb
  | some host => Cond.methodLinkNest own idx M.1 host ∈ lw_tbl) ∧ Cond.instanceMethod M.1 ∈ gtb ∧ Cond.initialized M.1.cls ∈ gtb ∧ Cond.code M.1 M.2.1 M.2.2.1 M.2.2.2 ∈ gtb ∧ M.1.name = "<init>" ∧ M.2.2.2 = none ∧ (M.1.cls ≠ "java/lang/invoke/MethodHandle" ∧ M.1.cls ≠ "java/lang/invoke/VarHandle" ∧ (parseMethodDescriptor M.1.desc).map (fun d => d.parameters.length) = some 0)
section GJ
variable {M : Mth} {p : Program} {l : Launch} {e : Env} {R : Room} {s : State} {m : MethodId} {args : Array Value} {below : List Frame} {meth : Method} {c : Code} {D : va_G} {cI cQ : ClassId} {A : Nat → Prop} {Z : State → Prop} {X : List (Nat × Nat × List Value)} {ad : Nat → Nat} {tb : Sd} {mc ms pc : Nat} {lv : List (Nat × Value)} {st : List Value} {c0 h0 : Nat}
/-- the run of a constructor, by its contract -/
theorem runI_any (hc : cxt M p s m args meth c D cI cQ) (ho : ovr s) {c1 ci idx d mc1 ms1 b : Nat} {vals : List Value} {M2 : Mth} {t1 : Sd} {nest : Option String} {H : Heap} {locs : List Loc} {ls : Array Slot} {rest : List Value} (hm : cIt M.1.cls idx M2 nest) (hct : cti M2 d mc1 ms1 c1 ci vals t1) (hR1 : d + 1 ≤ R.frames) (hR2 : 8 + (M2.2.2.1 + 11) + 40 * d ≤ R.locals) (hR3 : mc + mc1 ≤ R.cells) (hR4 : ms + ms1 ≤ R.slots) (hls : ls.size = M.2.2.1) (hst : (rest.map fun v => v.category).sum ≤ 8) (hd : decode M.2.1 pc = .ok (.invokespecial idx, 3)) (hP : va_P D vwCl [(b, .inr (ci, vals))] H) (hD : va_D A [(b, .inr (ci, vals))]) : va_Run p l e R s m args below meth c H locs mc ms mc1 ms1 (F0 m pc ls (.ref b :: rest)) rest (ipst D cI cQ c1 b t1 (va_A [(b, .inr (ci, vals))] H.size) #[.ref b]) (va_A [(b, .inr (ci, vals))] H.size) := by
  obtain ⟨m1, m2, m4, m5, m6, hret, m7⟩ := hm
  obtain ⟨hx, hbb, hml, -, hlk, hown, hts, hK⟩ := id hc
  have hw : wsM M2 = Cond.code M2.1 M2.2.1 M2.2.2.1 none :: gtb := by
    unfold wsM
    rw [hret]
  have hp : PreS s H (va_Pc [.ref b] (ipre D cI cQ b ci vals H.size)) (.ref b :: []) := ⟨ipre_blind, fun U hU hW => ⟨rfl, by rw [hU], by rw [hU]; exact hP, KK.warm hW hK, ovr.moved hW.alike ho, hD.weaken (fun _ _ _ _ => trivial)⟩⟩
  cases nest with
  | none =>
    have cw := callB_of (R := R) (mc := mc1) (ms := ms1) 0 hts (good_M m5) hw (rm := rmi d mc1 ms1) rfl rfl (hts _ m4) (hts _ m1) m7 ⟨hR1, hR2⟩
    exact va_runI (As := []) (g := F0 m pc ls (.ref b :: rest)) ⟨hx, hbb, hml, hown, hts⟩ (hct l D cI cQ b H.size) ⟨cw, m6, hts _ m2⟩ hp rfl rfl hls rfl (lv_room hst) hd ⟨hR3, hR4⟩
  | some host =>
    have cw := va_cnB (R := R) (mc := mc1) (ms := ms1) 0 hts (good_M m5) hw (rm := rmi d mc1 ms1) rfl rfl (hK.2 _ m1 rfl) (hts _ m4) m7 ⟨hR1, hR2⟩
    exact va_runIN (As := []) (g := F0 m pc ls (.ref b :: rest)) ⟨hx, hbb, hml, hown, hts⟩ (hct l D cI cQ b H.size) ⟨cw, m6, hts _ m2⟩ hp rfl rfl hls rfl (lv_room hst) hd ⟨hR3, hR4⟩
theorem g_callI (hc : cxt M p s m args meth c D cI cQ) (ho : ovr s) (hA : ∀ q : Nat, s.heap.size ≤ q → A q) {c1 ci idx d mc1 ms1 : Nat} {vals : List Value} {M2 : Mth} {t1 : Sd} {nest : Option String} (hm : cIt M.1.cls idx M2 nest) (hct : cti M2 d mc1 ms1 c1 ci vals t1) (hcl : ∀ ad : Nat → Nat, vals.map (trv ad) = vals) (hR1 : d + 1 ≤ R.frames) (hR2 : 8 + (M2.2.2.1 + 11) + 40 * d ≤ R.locals) (hR3 : mc + mc1 ≤ R.cells) (hR4 : ms + ms1 ≤ R.slots) (h0e : ad c0 = h0) (hne : (kys t1).contains c0 = false) (hin1 : (mT t1).all (fun b => (kys t1).contains b) = true) (hf : frs ((kys t1).filter (fun b => !(b == c1))) X tb lv st = true) (hst : (st.map fun v => v.category).sum ≤ 8) (hd : decode M.2.1 pc = .ok (.invokespecial idx, 3)) (k : ∀ ad2 : Nat → Nat, ad2 c0 = h0 → gw M p l e R s m args below meth c D cI cQ A Z X ad2 (tb ++ t1) (mc + mc1) (ms + ms1) (pc + 3) lv st ini) : gw M p l e R s m args below meth c D cI cQ A Z (X ++ [(c1, ci, vals)]) ad tb mc ms pc lv (.ref c1 :: st) ini := by
  intro H locs ls hP hD hS hl
  have eX : rawW ad (X ++ [(c1, ci, vals)]) = rawW ad X ++ [((ad c1, Sum.inr (ci, vals)) : Nat × va_E)] := by
    unfold rawW
    rw [List.map_append]
    show _ ++ [((ad c1, Sum.inr (ci, vals.map (trv ad))) : Nat × va_E)] = _
    rw [hcl]
  have pm : (rawW ad (X ++ [(c1, ci, vals)]) ++ wld cI cQ ad tb ini).Perm ((rawW ad X ++ wld cI cQ ad tb ini) ++ [((ad c1, Sum.inr (ci, vals)) : Nat × va_E)]) := by
    rw [eX, List.append_assoc, List.append_assoc]
    exact List.Perm.append_left _ List.perm_append_comm
  have hP0 := vaP_pm pm hP
  have hD0 := vaD_pm pm hD
  have hD1 := vaD_r hD0
  have hr := runI_any (l := l) (e := e) (below := below) (R := R) (mc := mc) (ms := ms) (pc := pc) (locs := locs) (rest := st.map (trv ad)) hc ho hm hct hR1 hR2 hR3 hR4 hl.1 (by rw [cat_le]; exact hst) hd (vaP_r hP0) hD1
  intro T hT X0
  obtain ⟨v, s0, t, T', L, h9, X', hL, e1, e2, ⟨⟨adc, hadc, hv, hP2, hD2⟩, hz, hk⟩, stp⟩ := hr T hT X0
  have hAA : ∀ q : Nat, va_A [((ad c1, Sum.inr (ci, vals)) : Nat × va_E)] H.size q → A q := fun q hq => by
    rcases hq with ⟨k9, e9, h9⟩ | h9
    · exact hD1.2 k9 _ h9
    · exact hA q (Nat.le_trans hS.1 h9)
  have hv2 : v = none := by injection hv
  subst hv2
  rw [h9] at hz hk
  have hS2 : va_S A s.heap T'.heap (locs ++ L) := ⟨Nat.le_trans hS.1 (by rw [e1]; exact hz), fun q h1 h2 => by
      rw [e1, hk q (Nat.lt_of_lt_of_le h1 hS.1) (fun z => h2 (hAA q z))]
      exact hS.2.1 q h1 h2, fun q hq => by
      rcases List.mem_append.mp hq with h | h
      · exact hS.2.2 q h
      · exact hAA _ (hL q h)⟩
  obtain ⟨j1, j2⟩ := jn hP0 hD0 hk hAA hP2 hD2
  have hag : ∀ b, b ∉ (kys t1).filter (fun b => !(b == c1)) → (fun b => if b ∈ kys t1 then adc b else ad b) b = ad b := fun b hb => by
    show (if b ∈ kys t1 then adc b else ad b) = ad b
    by_cases h : b ∈ kys t1
    · rw [if_pos h]
      have hb1 : b = c1 := Decidable.byContradiction (fun z => hb (List.mem_filter.mpr ⟨h, by simpa using z⟩))
      rw [hb1]
      exact hadc
    · rw [if_neg h]
  obtain ⟨f1, f2, f3, f4⟩ := frs_ag hf hag
  have hag2 : ∀ b, b ∈ mT t1 → (fun b => if b ∈ kys t1 then adc b else ad b) b = adc b := fun b hb => if_pos (by
    have := List.all_eq_true.mp hin1 b hb
    simpa using this)
  obtain ⟨g1, g2⟩ := ext2 (t1 := t1) f1 f2 j1 j2 (ag_W hag2 hP2) (by rw [wld_f]; exact ag_f hag2)
  have K := k (fun b => if b ∈ kys t1 then adc b else ad b) (by
    show (if c0 ∈ kys t1 then adc c0 else ad c0) = h0
    rw [if_neg (fun z => by
      have : (kys t1).contains c0 = true := by simpa using z
      rw [hne] at this
      cases this)]
    exact h0e) T'.heap (locs ++ L) ls (by rw [e1]; exact g1) g2 hS2 (by rw [f3]; exact hl)
  rw [f4] at K
  obtain ⟨t2, a1, b1⟩ := K T' rfl X'
  exact ⟨t2, stp t2 a1, b1⟩
end GJ
/-- the same cells in another order, or fewer -/
theorem gw_tb {M : Mth} {p : Program} {l : Launch} {e : Env} {R : Room} {s : State} {m : MethodId} {args : Array Value} {below : List Frame} {meth : Method} {c : Code} {D : va_G} {cI cQ : ClassId} {A : Nat → Prop} {Z : State → Prop} {ad : Nat → Nat} {tb tb2 : Sd} {mc ms pc : Nat} {lv : List (Nat × Value)} {st : List Value} {sg : Hp} (hn : (kys tb).Nodup) (hn2 : (kys tb2).Nodup) (hs : ∀ q, q ∈ tb2 → q ∈ tb) (k : gw M p l e R s m args below meth c D cI cQ A Z [] ad tb2 mc ms pc lv st sg) : gw M p l e R s m args below meth c D cI cQ A Z [] ad tb mc ms pc lv st sg := by
  intro H locs ls hP hD hS hl
  have hP : va_P D vwCl (wld cI cQ ad tb sg) H := hP
  have hD : va_D A (wld cI cQ ad tb sg) := hD
  have hI := (wld_D hn).1 hD
  exact k H locs ls (wld_P.2 (fun q hq => wld_P.1 hP q (hs q hq))) ((wld_D hn2).2 ⟨fun q r hq hr => hI.1 q r (hs q hq) (hs r hr), fun q hq => hI.2 q (hs q hq)⟩) hS hl
