/-! THE CLAIM OUT OF ONE WALK OF THE LAW'S BODY. Your part is whole_start (and what it stands on); all else here is the same for every law, but numbers. -/
def R_law : String := "BurstBoundsLaw"
def lw_P (b : Addr) (xs : List Int32) (args : Array Value) (s : State) : Prop := args = #[.ref b] ∧ s.IntsAt b xs ∧ xs.length ≤ 3072 ∧ (Jvm.Cond.and given_1 narrow_1).before args s = true
def lw_Q (_ : Array Value) (s : State) (o : Outcome) (t : State) : Prop := o = .returned (some (.int 1)) ∧ Framed s o t [] 600000 7302250
def lw_Z (below : List Frame) (a : Array Value) (s : State) : State → Prop := fun t => ∃ o, t.status = .running ∧ Ended t below o ∧ lw_Q a s o t
/-- the law's own end, with 1 on the stack, nothing written that was there before, its room as the claim has it -/
theorem lw_ret {p : Program} {l : Launch} {e : Env} {s : State} {m : MethodId} {below : List Frame} {meth : Method} {c : Code} {b : Nat} (hx : p.tables.exec = Jvm.exec) (hb : c.code = code) (hr : meth.sig.returnType = ret) (hlocks : meth.locks = false) {pc : Nat} {H : Heap} {ls : Array Slot} (hdg : decode code pc = .ok (.ireturn, 1)) : W p l e room_1 s m #[Value.ref b] below meth c H [] 600000 7302250 (lw_Z below #[Value.ref b] s) (F0 m pc ls [.int 1]) := by
  intro T hT X
  obtain ⟨fs, hret, hrun, hended, hW, hframe⟩ := X.leave (v := some (.int 1)) (hlocks := hlocks) (fun h => by rw [hr] at h; cases h)
  have hmeth' : T.vm.method? m = some meth := X.method'
  refine ⟨T.setFrames fs, ?_, .returned (some (.int 1)), hrun, hended, rfl, ⟨_, rfl⟩, hW, hframe⟩
  jvm_step X.here [X.here.top, hx, hb, hdg, hmeth', hr, ret, narrow_b1]
  (try refine ⟨rfl, ?_⟩); (try refine ⟨rfl, ?_⟩)
  first | (intro acts; rw [hret _ acts rfl rfl rfl]) | rw [hret _ _ rfl rfl rfl]
  exact Steps.refl _
/-- what holds at the law's entry: the machine, the code, the tables' words (any of lw_tbl by 'hts w (by decide +kernel)'), the script of L ints xs at the cell b, what the Statement gives of the start (any of its parts by flat_of_before) -/
def lw_At (p : Program) (s : State) (m : MethodId) (meth : Method) (c : Code) (b L : Nat) (xs : Nat → Int32) : Prop :=
  p.tables.exec = Jvm.exec ∧ c.code = code ∧ meth.sig.returnType = ret ∧ c.maxLocals = 4 ∧ s.vm.findClass R_law = some m.cls ∧ (∀ w ∈ lw_tbl, w.before #[Value.ref b] s = true) ∧ va_X b L xs s s.heap ∧ b < s.heap.size ∧ meth.locks = false ∧ (Jvm.Cond.and given_1 narrow_1).before #[Value.ref b] s = true
section LOOP
variable {p : Program} {l : Launch} {e : Env} {s : State} {m : MethodId} {below : List Frame} {meth : Method} {c : Code} {D : va_G} {cI cQ : ClassId} {A : Nat → Prop} {ad : Nat → Nat} {b L : Nat} {xs : Nat → Int32}
theorem law_end (hh : lh p s m #[Value.ref b] meth c D cI cQ A ad b L xs) (hA : ∀ q : Nat, A q → s.heap.size ≤ q) {lv : List (Nat × Value)} {sg : Hp} : gw mL p l e room_1 s m #[Value.ref b] below meth c D cI cQ A (lw_Z below #[Value.ref b] s) [] ad tL 600000 7302250 1420 lv [] sg := by
  have hc := hh.1
  refine g_iconst hc (v := 1) (by decide) dL_law_1420 ?_
  intro H locs ls hP hD hS hl
  exact va_forget (fun q hq => hA _ (hS.2.2 q hq)) (lw_ret hc.1 hc.2.1 hc.2.2.2.1 hc.2.2.2.2.1 dL_law_1421)
theorem law_cmp {i L : Nat} (hL : L ≤ 3072) (hi : i ≤ L + 6) (h : ¬ nI L - 6 < nI i) : i + 6 ≤ L := by
  have h1 : (nI L - 6).toInt = (L : Int) - 6 := by
    rw [Int32.toInt_sub, nI_toInt (by omega), show (6 : Int32).toInt = 6 by decide]
    rw [Int.bmod_def]
    omega
  rw [Int32.lt_iff_toInt_lt, h1, nI_toInt (by omega)] at h
  omega
theorem law_sw (hh : lh p s m #[Value.ref b] meth c D cI cQ A ad b L xs) {i : Nat} {sg : Hp} {x : Int32} (hi : i + 6 ≤ L) (hR : Rel sg sg) (kn : ∀ sg2, Rel sg2 sg2 → gw mL p l e room_1 s m #[Value.ref b] below meth c D cI cQ A (lw_Z below #[Value.ref b] s) [] ad tL 600000 7302250 1414 (lvL i) [] sg2) : gw mL p l e room_1 s m #[Value.ref b] below meth c D cI cQ A (lw_Z below #[Value.ref b] s) [] ad tL 600000 7302250 33 (lvL i) [.int x] sg := by
  have hc := hh.1
  rcases Classical.em (x.toInt < 0 ∨ 34 < x.toInt) with h | h
  · exact g_tabOut hc (tgt := 1414) dL_law_33 h (by decide) (kn sg hR)
  · obtain ⟨k, hk, hx⟩ : ∃ k : Nat, k < 35 ∧ x.toInt = (k : Int) := ⟨x.toInt.toNat, by omega, by omega⟩
    have h1 : ¬ x.toInt < 0 := fun q => h (Or.inl q)
    have h2 : ¬ 34 < x.toInt := fun q => h (Or.inr q)
    rcases (show k = 0 ∨ k = 1 ∨ k = 2 ∨ k = 3 ∨ k = 4 ∨ k = 5 ∨ k = 6 ∨ k = 7 ∨ k = 8 ∨ k = 9 ∨ k = 10 ∨ k = 11 ∨ k = 12 ∨ k = 13 ∨ k = 14 ∨ k = 15 ∨ k = 16 ∨ k = 17 ∨ k = 18 ∨ k = 19 ∨ k = 20 ∨ k = 21 ∨ k = 22 ∨ k = 23 ∨ k = 24 ∨ k = 25 ∨ k = 26 ∨ k = 27 ∨ k = 28 ∨ k = 29 ∨ k = 30 ∨ k = 31 ∨ k = 32 ∨ k = 33 ∨ k = 34 by omega) with rfl | rfl | rfl | rfl | rfl | rfl | rfl | rfl | rfl | rfl | rfl | rfl | rfl | rfl | rfl | rfl | rfl | rfl | rfl | rfl | rfl | rfl | rfl | rfl | rfl | rfl | rfl | rfl | rfl | rfl | rfl | rfl | rfl | rfl | rfl
    · exact g_tabIn hc dL_law_33 h1 h2 (by rw [hx]; rfl) (by decide) (law_0 hh hi hR kn)
    · exact g_tabIn hc dL_law_33 h1 h2 (by rw [hx]; rfl) (by decide) (law_1 hh hi hR kn)
    · exact g_tabIn hc dL_law_33 h1 h2 (by rw [hx]; rfl) (by decide) (law_2 hh hi hR kn)
    · exact g_tabIn hc dL_law_33 h1 h2 (by rw [hx]; rfl) (by decide) (law_3 hh hi hR kn)
    · exact g_tabIn hc dL_law_33 h1 h2 (by rw [hx]; rfl) (by decide) (law_4 hh hi hR kn)
    · exact g_tabIn hc dL_law_33 h1 h2 (by rw [hx]; rfl) (by decide) (law_5 hh hi hR kn)
    · exact g_tabIn hc dL_law_33 h1 h2 (by rw [hx]; rfl) (by decide) (law_6 hh hi hR kn)
    · exact g_tabIn hc dL_law_33 h1 h2 (by rw [hx]; rfl) (by decide) (law_7 hh hi hR kn)
    · exact g_tabIn hc dL_law_33 h1 h2 (by rw [hx]; rfl) (by decide) (law_8 hh hi hR kn)
    · exact g_tabIn hc dL_law_33 h1 h2 (by rw [hx]; rfl) (by decide) (law_9 hh hi hR kn)
    · exact g_tabIn hc dL_law_33 h1 h2 (by rw [hx]; rfl) (by decide) (law_10 hh hi hR kn)
    · exact g_tabIn hc dL_law_33 h1 h2 (by rw [hx]; rfl) (by decide) (law_11 hh hi hR kn)
    · exact g_tabIn hc dL_law_33 h1 h2 (by rw [hx]; rfl) (by decide) (law_12 hh hi hR kn)
    · exact g_tabIn hc dL_law_33 h1 h2 (by rw [hx]; rfl) (by decide) (law_13 hh hi hR kn)
    · exact g_tabIn hc dL_law_33 h1 h2 (by rw [hx]; rfl) (by decide) (law_14 hh hi hR kn)
    · exact g_tabIn hc dL_law_33 h1 h2 (by rw [hx]; rfl) (by decide) (law_15 hh hi hR kn)
    · exact g_tabIn hc dL_law_33 h1 h2 (by rw [hx]; rfl) (by decide) (law_16 hh hi hR kn)
    · exact g_tabIn hc dL_law_33 h1 h2 (by rw [hx]; rfl) (by decide) (law_17 hh hi hR kn)
    · exact g_tabIn hc dL_law_33 h1 h2 (by rw [hx]; rfl) (by decide) (law_18 hh hi hR kn)
    · exact g_tabIn hc dL_law_33 h1 h2 (by rw [hx]; rfl) (by decide) (law_19 hh hi hR kn)
    · exact g_tabIn hc dL_law_33 h1 h2 (by rw [hx]; rfl) (by decide) (law_20 hh hi hR kn)
    · exact g_tabIn hc dL_law_33 h1 h2 (by rw [hx]; rfl) (by decide) (law_21 hh hi hR kn)
    · exact g_tabIn hc dL_law_33 h1 h2 (by rw [hx]; rfl) (by decide) (law_22 hh hi hR kn)
    · exact g_tabIn hc dL_law_33 h1 h2 (by rw [hx]; rfl) (by decide) (law_23 hh hi hR kn)
    · exact g_tabIn hc dL_law_33 h1 h2 (by rw [hx]; rfl) (by decide) (law_24 hh hi hR kn)
    · exact g_tabIn hc dL_law_33 h1 h2 (by rw [hx]; rfl) (by decide) (law_25 hh hi hR kn)
    · exact g_tabIn hc dL_law_33 h1 h2 (by rw [hx]; rfl) (by decide) (law_26 hh hi hR kn)
    · exact g_tabIn hc dL_law_33 h1 h2 (by rw [hx]; rfl) (by decide) (law_27 hh hi hR kn)
    · exact g_tabIn hc dL_law_33 h1 h2 (by rw [hx]; rfl) (by decide) (law_28 hh hi hR kn)
    · exact g_tabIn hc dL_law_33 h1 h2 (by rw [hx]; rfl) (by decide) (law_29 hh hi hR kn)
    · exact g_tabIn hc dL_law_33 h1 h2 (by rw [hx]; rfl) (by decide) (law_30 hh hi hR kn)
    · exact g_tabIn hc dL_law_33 h1 h2 (by rw [hx]; rfl) (by decide) (law_31 hh hi hR kn)
    · exact g_tabIn hc dL_law_33 h1 h2 (by rw [hx]; rfl) (by decide) (law_32 hh hi hR kn)
    · exact g_tabIn hc dL_law_33 h1 h2 (by rw [hx]; rfl) (by decide) (law_33 hh hi hR kn)
    · exact g_tabIn hc dL_law_33 h1 h2 (by rw [hx]; rfl) (by decide) (law_34 hh hi hR kn)
theorem law_loop (hh : lh p s m #[Value.ref b] meth c D cI cQ A ad b L xs) (hA : ∀ q : Nat, A q → s.heap.size ≤ q) : ∀ (n i : Nat) (sg : Hp), L + 7 ≤ i + n → i ≤ L + 6 → Rel sg sg → gw mL p l e room_1 s m #[Value.ref b] below meth c D cI cQ A (lw_Z below #[Value.ref b] s) [] ad tL 600000 7302250 18 (lvL i) [] sg
  | 0, i, sg, h1, h2, _ => absurd h1 (by omega)
  | n + 1, i, sg, h1, h2, hR => by
    have hc := hh.1
    have hL : L ≤ 3072 := hh.2.2.2.2.2.2
    refine g_iload_n hc (k0 := 3) (x := nI i) rfl dL_law_18 ?_
    refine g_aload_n hc (k0 := 0) (x := 400) rfl dL_law_19 ?_
    refine g_slen hc hh.2.1 hh.2.2.1 hh.2.2.2.1 hh.2.2.2.2.1 dL_law_20 ?_
    refine g_bipush hc (v := 6) (by decide) dL_law_21 ?_
    refine g_isub hc dL_law_23 ?_
    refine g_icmp_gt hc (tgt := 1420) dL_law_24 (by decide) (fun _ => law_end hh hA) (fun h => ?_)
    have hi := law_cmp hL h2 h
    refine g_aload_n hc (k0 := 0) (x := 400) rfl dL_law_27 ?_
    refine g_iload_n hc (k0 := 3) (x := nI i) rfl dL_law_28 ?_
    refine g_sld hc hh.2.1 hh.2.2.1 hh.2.2.2.1 hh.2.2.2.2.1 (inb_in (inbN (show i < L by omega) (by omega))) dL_law_29 ?_
    refine g_bipush hc (v := 63) (by decide) dL_law_30 ?_
    refine g_iand hc dL_law_32 ?_
    refine law_sw hh hi hR (fun sg2 hR2 => ?_)
    refine g_iinc hc (w := 6) (x := nI i) (by decide) rfl (by decide) rfl dL_law_1414 ?_
    refine g_goto hc (tgt := 18) dL_law_1417 (by decide) ?_
    have e6 : nI i + 6 = nI (i + 6) := nI_add i 6
    rw [e6]
    exact law_loop hh hA n (i + 6) sg2 (by omega) (by omega) hR2
end LOOP
